/** Promises 8 to 10: paragraph, demerits, lines. */
public final class ParagraphTest {
    public static void main(String[] args) {
        spaces();
        noTexts();
        noWay();
        fullGalley();
        moreThanAGalley();
        asItIsNow();
        leastDemerits();
        tolerance();
        apart();
        hyphens();
        ties();
        shrinkMoreThanSpace();
        greatSums();
        Checks.end();
    }

    private static void spaces() {
        GalleySetter s = new GalleySetter();
        Checks.due("lines", Checks.paragraph(s, "   ab   c d  "), 1);
        Checks.due("spaces count as one", Checks.galley(s), "ab c d");
        Checks.due("nothing is typed then", Checks.countTyped(s), 0);
        Checks.due("a letter", Checks.paragraph(s, "z"), 1);
        Checks.due("twenty letters", Checks.outcome(() -> {
            s.set(0, 600);
            return Checks.paragraph(s, "a".repeat(20) + " " + "b".repeat(20));
        }), "1");
        Checks.due("lines", s.lines(), 3);
        Checks.due("latest demerits", s.demerits(), 100);
        s.width('a', 1);
        s.width('b', 1);
        Checks.due("eighty characters", Checks.paragraph(s, " a b".repeat(20)), 1);
        Checks.due("its characters", s.size(3), 79);
        Checks.due("eighty", Checks.paragraph(s, ("a".repeat(15) + " ").repeat(4) + "b".repeat(16)), 1);
        Checks.due("its characters", s.size(4), 80);
    }

    private static void noTexts() {
        String[] bad = {"", " ", "    ", "a.", ".a", "a 1 b", "a1", "1", ".", "a".repeat(21),
            "ab " + "c".repeat(21) + " d", " " + "a".repeat(21)};
        for (String typed : bad) {
            GalleySetter s = new GalleySetter();
            s.set(0, 600);
            Checks.paragraph(s, "abc");
            Checks.typed(s, typed);
            Checks.refused("paragraph " + typed, IllegalArgumentException.class, s::paragraph);
            Checks.due("lines stay", s.lines(), 1);
            Checks.due("demerits stay", s.demerits(), 100);
            Checks.due("what is typed stays: " + typed, Checks.countTyped(s), typed.length());
        }
    }

    private static void noWay() {
        GalleySetter s = new GalleySetter();
        Checks.paragraph(s, "abc");
        Checks.typed(s, "aaaaaaaaaaaaa");
        Checks.refused("a word wider than the measure", IllegalStateException.class, s::paragraph);
        Checks.due("lines stay", s.lines(), 1);
        Checks.due("demerits stay", s.demerits(), 100);
        s.set(0, 130);
        Checks.due("what is typed stays", s.paragraph(), 1);
        Checks.typed(s, "aaaaa aaaaaaaaaaaaa");
        Checks.refused("a line without spaces does not stretch", IllegalStateException.class, s::paragraph);
        s.set(0, 186);
        Checks.due("room for both", s.paragraph(), 1);
    }

    private static void fullGalley() {
        GalleySetter s = new GalleySetter();
        s.set(0, 20);
        s.width('a', 20);
        for (int i = 0; i < 59; i++) {
            Checks.due("paragraph", Checks.paragraph(s, "a"), 1);
        }
        Checks.typed(s, "a a");
        Checks.refused("61 lines", UnsupportedOperationException.class, s::paragraph);
        Checks.due("lines stay", s.lines(), 59);
        Checks.due("demerits stay", s.demerits(), 100);
        Checks.due("what is typed stays", Checks.countTyped(s), 3);
        Checks.due("60 lines", Checks.paragraph(s, "a"), 1);
        Checks.typed(s, "a");
        Checks.refused("one more", UnsupportedOperationException.class, s::paragraph);
        s.wipe();
        Checks.typed(s, "aa");
        Checks.refused("no way, when it is full", IllegalStateException.class, s::paragraph);
        s.wipe();
        Checks.typed(s, "a.");
        Checks.refused("no text, when it is full", IllegalArgumentException.class, s::paragraph);
        s.clear();
        s.wipe();
        Checks.due("behind clear", Checks.paragraph(s, "a a"), 2);
        Checks.due("lines", s.lines(), 2);
        Checks.due("demerits", s.demerits(), 200);
    }

    private static void moreThanAGalley() {
        GalleySetter s = new GalleySetter();
        s.set(0, 20);
        s.width('a', 5);
        Checks.pattern(s, "1b");
        // aa- and each b- are 20 wide, and so is bb: 18 lines for a word.
        String word = "aa" + "b".repeat(18);
        Checks.due("lines of a word", Checks.paragraph(s, word), 18);
        Checks.due("demerits", s.demerits(), 18 * 100 + 17 * 2500 + 16 * 3000);
        s.clear();
        Checks.due("lines of three words", Checks.paragraph(s, word + " " + word + " " + word), 54);
        s.clear();
        Checks.typed(s, word + " " + word + " " + word + " aa" + "b".repeat(15));
        Checks.refused("69 lines", UnsupportedOperationException.class, s::paragraph);
        Checks.due("none of them", s.lines(), 0);
        s.wipe();
        Checks.due("60 lines", Checks.paragraph(s, word + " " + word + " " + word + " aabbbbbb"), 60);
        Checks.due("lines", s.lines(), 60);
        Checks.due("the last", Checks.line(s, 59), "bb");
    }

    private static void asItIsNow() {
        GalleySetter s = new GalleySetter();
        s.set(0, 40);
        Checks.typed(s, "aaabaa");
        Checks.refused("no point", IllegalStateException.class, s::paragraph);
        s.wipe();
        Checks.pattern(s, "1b");
        Checks.due("by the pattern", Checks.paragraph(s, "aaabaa"), 2);
        Checks.due("lines", Checks.galley(s), "aaa-|baa");
        s.set(0, 120);
        Checks.due("by the measure", Checks.paragraph(s, "aaabaa"), 1);
        s.width('a', 24);
        Checks.pattern(s, "2b");
        Checks.typed(s, "aaabaa");
        Checks.refused("by the width and the pattern", IllegalStateException.class, s::paragraph);
        Checks.due("the lines that were set stay", Checks.galley(s), "aaa-|baa|aaabaa");
        Checks.due("their places too", Checks.places(s, 2), "0 10 20 30 40 50");
    }

    private static void leastDemerits() {
        GalleySetter s = new GalleySetter();
        s.set(0, 100);
        s.set(1, 10);
        s.set(2, 20);
        s.set(3, 5);
        s.set(7, 9999);
        // As much as fits into the first line leaves the second one with badness 100.
        Checks.paragraph(s, "a a a a a a bbbbbb cccccccccc");
        Checks.due("lines", Checks.galley(s), "a a a a|a a bbbbbb|cccccccccc");
        Checks.due("demerits", s.demerits(), 22 * 22 + 100 + 100);
        Checks.due("badness", s.badness(0), 10012);
        Checks.due("badness", s.badness(1), 10000);
    }

    private static void tolerance() {
        GalleySetter s = new GalleySetter();
        s.set(0, 100);
        s.set(1, 10);
        s.set(2, 10);
        s.set(3, 10);
        // 9 letters and a space are 100; 8 leave 10 of 10: 100; 10 are 10 over: 100.
        s.set(7, 100);
        Checks.due("badness as great as the tolerance", Checks.paragraph(s, "aaaa aaaa aaaaaaaaaa"), 2);
        Checks.due("class 2", s.badness(0), 20100);
        Checks.due("shrunk", Checks.paragraph(s, "aaaaa aaaaa aaaaaaaaaa"), 2);
        Checks.due("class 0", s.badness(2), 100);
        s.set(7, 99);
        Checks.typed(s, "aaaa aaaa aaaaaaaaaa");
        Checks.refused("less tolerance", IllegalStateException.class, s::paragraph);
        s.wipe();
        Checks.typed(s, "aaaaa aaaaa aaaaaaaaaa");
        Checks.refused("less tolerance, shrunk", IllegalStateException.class, s::paragraph);
        s.wipe();
        s.set(7, 9999);
        s.set(3, 9);
        Checks.typed(s, "aaaaa aaaaa");
        Checks.refused("not shrunk by more than SHRINK", IllegalStateException.class, s::paragraph);
        s.set(3, 10);
        Checks.due("a last line shrunk", s.paragraph(), 1);
        Checks.due("its badness", s.badness(4), 100);
        // The line in front is of class 1, so that this one, of class 0, is not apart.
        Checks.due("its demerits", s.demerits(), 110 * 110);
        s.set(7, 0);
        s.set(3, 60);
        Checks.due("badness 0 by cutting", Checks.paragraph(s, "aaaaa aaaaa"), 1);
        Checks.due("its badness", s.badness(5), 10000);
    }

    private static void apart() {
        GalleySetter s = new GalleySetter();
        s.set(0, 100);
        s.set(1, 10);
        s.set(2, 10);
        s.set(3, 10);
        s.set(6, 77);
        s.set(7, 9999);
        // 30 of 10: class 3, apart from the 1 in front; 0: class 1, apart from the 3.
        Checks.paragraph(s, "aaa aaa aaaaaaaaaa");
        Checks.due("class 3", s.badness(0), 32700);
        Checks.due("twice apart", s.demerits(), 2710L * 2710 + 77 + 100 + 77);
        // 10 over: class 0, then 10 of 10: class 2, then class 1.
        Checks.paragraph(s, "aaaaa aaaaa aaaa aaaa aaaaaaaaaa");
        Checks.due("class 0", s.badness(2), 100);
        Checks.due("class 2", s.badness(3), 20100);
        Checks.due("once apart", s.demerits(), 110 * 110 + 110 * 110 + 77 + 100);
        // 5 of 10 is class 1 yet, and so is 5 over.
        s.width('b', 5);
        Checks.paragraph(s, "aaaab aaaa aaaaaaaaaa aaaab aaaaa aaaaaaaaaa");
        Checks.due("half", s.badness(5), 10012);
        Checks.due("half over", s.badness(7), 10012);
        s.width('c', 4);
        Checks.paragraph(s, "aaaac aaaa aaaaaaaaaa");
        Checks.due("more than half", s.badness(9), 20021);
        s.width('c', 6);
        Checks.paragraph(s, "aaaac aaaaa aaaaaaaaaa");
        Checks.due("more than half over", s.badness(11), 21);
        s.width('c', 9);
        Checks.paragraph(s, "aaac aaaa aaaaaaaaaa");
        Checks.due("more than the stretch", s.badness(13), 30133);
    }

    private static void hyphens() {
        GalleySetter s = new GalleySetter();
        s.set(0, 40);
        s.set(4, 1000);
        s.set(5, 99999);
        Checks.pattern(s, "1b");
        Checks.paragraph(s, "aaabaabaaa");
        Checks.due("lines", Checks.galley(s), "aaa-|baa-|baaa");
        Checks.due("the second begins and ends at a point", s.demerits(), 300 + 2 * 1000000 + 99999);
        s.clear();
        Checks.paragraph(s, "aaabaaa aaaa");
        Checks.due("lines", Checks.galley(s), "aaa-|baaa|aaaa");
        Checks.due("one that only begins at a point", s.demerits(), 300 + 1000000);
        s.clear();
        Checks.paragraph(s, "aaaa aaabaaa");
        Checks.due("one that only ends at a point", s.demerits(), 300 + 1000000);
        s.clear();
        Checks.paragraph(s, "aaabaaa aaabaaa");
        Checks.due("lines", Checks.galley(s), "aaa-|baaa|aaa-|baaa");
        Checks.due("no two in a row", s.demerits(), 400 + 2 * 1000000);
        s.clear();
        Checks.paragraph(s, "aabb");
        Checks.due("no hyphen where no line ends", Checks.galley(s), "aabb");
        Checks.due("no demerits for it", s.demerits(), 100);
    }

    private static void ties() {
        GalleySetter s = new GalleySetter();
        s.set(0, 20);
        s.set(1, 0);
        s.set(2, 60);
        s.set(3, 0);
        s.width('a', 5);
        // With such a stretch all lines of two to four words have badness 0.
        Checks.paragraph(s, "a a a a a");
        Checks.due("the last line begins earlier", Checks.galley(s), "a a|a a a");
        s.clear();
        Checks.paragraph(s, "a a a a a a a a a");
        Checks.due("the last line that differs begins earlier", Checks.galley(s), "a a|a a a|a a a a");
    }

    private static void shrinkMoreThanSpace() {
        GalleySetter s = new GalleySetter();
        s.set(0, 20);
        s.set(1, 0);
        s.set(3, 60);
        s.set(7, 9999);
        s.width('b', 60);
        // One word is too wide and can't shrink, two can.
        Checks.due("more words may fit where fewer do not", Checks.paragraph(s, "b a"), 1);
        Checks.due("badness of 50 of 60", s.badness(0), 57);
        Checks.due("places", Checks.places(s, 0), "0 60 10");
    }

    private static void greatSums() {
        GalleySetter s = new GalleySetter();
        s.set(0, 155);
        s.set(1, 0);
        s.set(2, 11);
        s.set(3, 0);
        s.set(6, 99999);
        s.set(7, 9999);
        s.width('a', 52);
        // 51 of 11 is 9966, and a third word is too wide.
        Checks.due("lines", Checks.paragraph(s, "a ".repeat(40)), 20);
        Checks.due("badness", s.badness(0), 39966);
        Checks.due("demerits", s.demerits(), 19L * 9976 * 9976 + 100 + 2 * 99999);
    }
}
