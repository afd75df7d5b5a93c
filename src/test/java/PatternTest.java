/** Promises 4 and 5: pattern, points. */
public final class PatternTest {
    public static void main(String[] args) {
        goodPatterns();
        noPatterns();
        sameLetters();
        thirty();
        pointsOfWords();
        pointsAtTheEnds();
        dots();
        noWords();
        Checks.end();
    }

    private static void goodPatterns() {
        String[] good = {"a", "1b", "c1", "1d2", ".e", "f.", ".g.", ".1h2.", "abcdefgh", ".abcdefgh.",
            ".1a2b3c4d5e6f7g8i9.", "0z9", "a0b", "x1y"};
        GalleySetter s = new GalleySetter();
        for (int i = 0; i < good.length; i++) {
            Checks.due("pattern " + good[i], Checks.pattern(s, good[i]), i + 1);
            Checks.due("nothing is typed then", Checks.countTyped(s), 0);
        }
    }

    private static void noPatterns() {
        String[] bad = {"", ".", "..", "1", ".1.", "12", "..a", "a..", "1.a", "a.1", "12a", "a12", "a12b", "a.b",
            "abcdefghi", ".abcdefghi.", "a b", " a", "a ", " ", "1a.b", "a1.1", "...", "a.1.", ".1.a"};
        for (String typed : bad) {
            GalleySetter s = new GalleySetter();
            Checks.pattern(s, "xyz");
            Checks.typed(s, typed);
            Checks.refused("pattern " + typed, IllegalArgumentException.class, s::pattern);
            Checks.due("what is typed stays: " + typed, Checks.countTyped(s), typed.length());
            Checks.due("patterns behind " + typed, Checks.pattern(s, "q"), 2);
        }
    }

    private static void sameLetters() {
        GalleySetter s = new GalleySetter();
        Checks.due("first", Checks.pattern(s, "a1b"), 1);
        Checks.due("points by the first", Checks.points(s, "xabx"), 1 << 2);
        Checks.due("again", Checks.pattern(s, "a2b"), 1);
        Checks.due("the old digits are gone", Checks.points(s, "xabx"), 0);
        Checks.due("again", Checks.pattern(s, "1ab"), 1);
        Checks.due("digits not written are 0", Checks.points(s, "xxabx"), 1 << 2);
        Checks.due("again without digits", Checks.pattern(s, "ab"), 1);
        Checks.due("no digits", Checks.points(s, "xxabx"), 0);
        Checks.due("a dot makes other letters", Checks.pattern(s, ".a1b"), 2);
        Checks.due("a dot behind too", Checks.pattern(s, "a1b."), 3);
        Checks.due("both too", Checks.pattern(s, ".ab."), 4);
        Checks.due("a longer one too", Checks.pattern(s, "abc"), 5);
        Checks.due("a shorter one too", Checks.pattern(s, "a"), 6);
        Checks.due("the dotted again", Checks.pattern(s, ".3a3b3"), 6);
    }

    private static void thirty() {
        GalleySetter s = new GalleySetter();
        for (int i = 0; i < 30; i++) {
            Checks.due("pattern", Checks.pattern(s, "" + (char) ('a' + i % 26) + (char) ('a' + i / 26)), i + 1);
        }
        Checks.typed(s, "1zz1");
        Checks.refused("pattern 31", IllegalStateException.class, s::pattern);
        Checks.due("what is typed stays", Checks.countTyped(s), 4);
        Checks.due("pattern 31 counts for nothing", Checks.points(s, "xzzzzx"), 0);
        Checks.due("one with the same letters", Checks.pattern(s, "d1b"), 30);
        Checks.due("it counts", Checks.points(s, "xdbx"), 1 << 2);
        Checks.due("the last of the thirty", Checks.pattern(s, "d3b"), 30);
        Checks.typed(s, "12a");
        Checks.refused("no pattern, when there are 30", IllegalArgumentException.class, s::pattern);
    }

    private static void pointsOfWords() {
        GalleySetter s = new GalleySetter();
        Checks.pattern(s, "1na");
        Checks.due("banana", Checks.points(s, "banana"), 1 << 2 | 1 << 4);
        Checks.pattern(s, "a2n");
        Checks.due("the greater digit counts", Checks.points(s, "banana"), 0);
        Checks.pattern(s, "an3a.");
        Checks.due("behind n", Checks.points(s, "banana"), 0);
        Checks.pattern(s, "a3na.");
        Checks.due("in front of the last n", Checks.points(s, "banana"), 1 << 4);
        Checks.pattern(s, "1na9");
        Checks.due("9 in front of the last n", Checks.points(s, "banana"), 1 << 4);
        Checks.pattern(s, "1n8a9");
        Checks.due("a greater even digit within", Checks.points(s, "nananana"), 1 << 2 | 1 << 4 | 1 << 6);
        s.wipe();
        Checks.typed(s, "banana");
        Checks.due("points", s.points(), 1 << 4);
        Checks.due("what is typed stays", s.points(), 1 << 4);
        Checks.due("typed", Checks.countTyped(s), 6);
    }

    private static void pointsAtTheEnds() {
        GalleySetter s = new GalleySetter();
        Checks.pattern(s, "1a1");
        int[] bits = {0, 0, 0, 0, 1 << 2, 1 << 2 | 1 << 3};
        for (int n = 1; n < bits.length; n++) {
            Checks.due(n + " letters", Checks.points(s, "a".repeat(n)), bits[n]);
        }
        Checks.due("20 letters", Checks.points(s, "a".repeat(20)), (1 << 19) - 4);
        Checks.pattern(s, "aaaaaaaa9");
        Checks.due("eight letters side by side", Checks.points(s, "a".repeat(9)), (1 << 8) - 4);
        Checks.pattern(s, "aaaaaaaa8");
        Checks.due("a digit behind", Checks.points(s, "a".repeat(12)), (1 << 8) - 4);
        Checks.pattern(s, "8aaaaaaaa");
        Checks.due("the same letters: a digit in front", Checks.points(s, "a".repeat(12)), 0x7fc & ~0x1c);
    }

    private static void dots() {
        GalleySetter s = new GalleySetter();
        Checks.pattern(s, ".ab1c");
        Checks.due("a dot in front", Checks.points(s, "abcabcabc"), 1 << 2);
        Checks.pattern(s, "1ca.");
        Checks.due("a dot behind", Checks.points(s, "abcabcaca"), 1 << 2 | 1 << 7);
        Checks.pattern(s, ".xy1zw.");
        Checks.due("both", Checks.points(s, "xyzw"), 1 << 2);
        Checks.due("both, in a longer word", Checks.points(s, "xyzwx"), 0);
        Checks.pattern(s, ".1abcd1.");
        Checks.due("digits at the dots", Checks.points(s, "abcd"), 1 << 2);
        Checks.due("only at the beginning", Checks.points(s, "xabcx"), 0);
    }

    private static void noWords() {
        String[] bad = {"", " ", "a b", " a", "a ", "a.", ".a", "a1", "1", "a".repeat(21), "a".repeat(80)};
        for (String typed : bad) {
            GalleySetter s = Checks.typed(new GalleySetter(), typed);
            Checks.refused("points of " + typed, IllegalArgumentException.class, s::points);
            if (typed.length() < 80) {
                Checks.due("it stays", Checks.countTyped(s), typed.length());
            }
        }
        Checks.due("one letter", Checks.points(new GalleySetter(), "z"), 0);
    }
}
