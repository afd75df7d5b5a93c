/** The edges of demerits and of the way that is taken, a sentence of the document at a time. */
public final class EdgeWaysTest {
    public static void main(String[] args) {
        squareOfTenAndBadness();
        squareOfHyphen();
        doubleIfItAlsoBeginsAtOne();
        apartByMoreThanOne();
        inFrontOfTheFirstLine();
        fromBeginningToEnd();
        allMayBe();
        leastByHyphen();
        leastByDouble();
        leastByApart();
        classOfTheLineBefore();
        lastLineDiffers();
        earlierLineDiffers();
        sameBreakOfTwoClasses();
        sumOfTheLatest();
        sumStays();
        Checks.end();
    }

    /** The parameters in their order but for HEIGHT, and the widths of a, b, c. */
    private static GalleySetter style(int[] parameters, int... widths) {
        GalleySetter s = new GalleySetter();
        for (int i = 0; i < parameters.length; i++) {
            s.set(i, parameters[i]);
        }
        for (int i = 0; i < widths.length; i++) {
            s.width((char) ('a' + i), widths[i]);
        }
        return s;
    }

    private static void set(GalleySetter s, String text, String lines, long demerits) {
        s.clear();
        Checks.due("lines of " + text, Checks.outcome(() -> {
            Checks.paragraph(s, text);
            return Checks.galley(s);
        }), lines);
        Checks.due("demerits of " + text, s.demerits(), demerits);
    }

    private static void squareOfTenAndBadness() {
        Checks.sentence("DEMERITS of a line: the square of 10 + its badness");
        GalleySetter s = style(new int[] {100, 10, 60, 0, 50, 3000, 0, 9999}, 10);
        set(s, "aaaaaaaaaa", "aaaaaaaaaa", 100);
        set(s, "a", "a", 100);
        s.width('m', 30);
        s.width('n', 47);
        // 13 of 60: badness 1.
        set(s, "m n aaaaaaaaaa", "m n|aaaaaaaaaa", 11 * 11 + 100);
        s.width('m', 15);
        s.width('n', 15);
        set(s, "m n aaaaaaaaaa", "m n|aaaaaaaaaa", 110 * 110 + 100);
        GalleySetter most = style(new int[] {300, 10, 53, 0, 50, 3000, 0, 9999}, 34, 60);
        most.width('m', 10);
        set(most, "a m bbbbb", "a m|bbbbb", 10009L * 10009 + 100);
    }

    private static void squareOfHyphen() {
        Checks.sentence("the square of HYPHEN if it ends at a point");
        for (int hyphen : new int[] {0, 1, 1000}) {
            GalleySetter s = style(new int[] {30, 6, 3, 2, hyphen, 99999, 99999, 200});
            Checks.pattern(s, "1bb");
            set(s, "aabb", "aa-|bb", 200 + hyphen * hyphen);
            set(s, "aaa bbb", "aaa|bbb", 200);
            set(s, "aabbb aabbb", "aa-|bbb|aa-|bbb", 400 + 2 * hyphen * hyphen);
        }
    }

    private static void doubleIfItAlsoBeginsAtOne() {
        Checks.sentence("DOUBLE if it also begins at one");
        for (int more : new int[] {0, 1, 99999}) {
            GalleySetter s = style(new int[] {30, 6, 3, 2, 7, more, 99999, 200});
            Checks.pattern(s, "1bb");
            Checks.pattern(s, "1cc");
            Checks.pattern(s, "1dd");
            set(s, "aabb", "aa-|bb", 200 + 49);
            set(s, "aabbb aa", "aa-|bbb|aa", 300 + 49);
            set(s, "aaa aabb", "aaa|aa-|bb", 300 + 49);
            set(s, "aabbcc", "aa-|bb-|cc", 300 + 2 * 49 + more);
            set(s, "aabbccdd", "aa-|bb-|cc-|dd", 400 + 3 * 49 + 2 * more);
            set(s, "aabbb aacc", "aa-|bbb|aa-|cc", 400 + 2 * 49);
        }
    }

    /** A line of two such letters has the class 3, 2, 1 or 0. */
    private static GalleySetter fourClasses(int apart) {
        GalleySetter s = style(new int[] {100, 10, 10, 10, 0, 0, apart, 9999});
        s.width('p', 35);
        s.width('q', 40);
        s.width('r', 45);
        s.width('s', 50);
        return s;
    }

    private static int ownDemerits(int kind) {
        return kind == 3 ? 810 * 810 : kind == 1 ? 100 : 110 * 110;
    }

    private static void apartByMoreThanOne() {
        Checks.sentence("APART if its class and that of the line before differ by more than 1");
        for (int apart : new int[] {0, 1, 99999}) {
            for (int kind = 0; kind < 4; kind++) {
                for (int next = 0; next < 4; next++) {
                    twoClasses(apart, kind, next);
                }
            }
        }
    }

    private static void twoClasses(int apart, int kind, int next) {
        String one = "srqp".charAt(kind) + " " + "srqp".charAt(kind);
        String two = "srqp".charAt(next) + " " + "srqp".charAt(next);
        int times = (kind == 3 ? 1 : 0) + (Math.abs(kind - next) > 1 ? 1 : 0) + (next == 3 ? 1 : 0);
        set(fourClasses(apart), one + " " + two + " r", one + "|" + two + "|r",
                ownDemerits(kind) + ownDemerits(next) + 100 + (long) times * apart);
    }

    private static void inFrontOfTheFirstLine() {
        Checks.sentence("(in front of the first line, the class is 1)");
        set(fourClasses(7), "s s r", "s s|r", 12100 + 100);
        set(fourClasses(7), "r r r", "r r|r", 100 + 100);
        set(fourClasses(7), "q q r", "q q|r", 12100 + 100);
        set(fourClasses(7), "p p r", "p p|r", 810 * 810 + 7 + 100 + 7);
        GalleySetter s = fourClasses(7);
        Checks.due("a paragraph that ends with class 0", Checks.paragraph(s, "s s"), 1);
        Checks.due("its badness", s.badness(0), 100);
        Checks.due("the next one", Checks.paragraph(s, "q q r"), 2);
        Checks.due("class 2 is not apart", s.demerits(), 12100 + 100);
    }

    private static void fromBeginningToEnd() {
        Checks.sentence("The text is SET by those lines, from its beginning to its end");
        GalleySetter s = style(new int[] {100, 10, 0, 0, 0, 0, 0, 0}, 10);
        set(s, "aaaaaaaaaa", "aaaaaaaaaa", 100);
        set(s, "aaaa aaaaa", "aaaa aaaaa", 100);
        set(s, "aaaa aaaaa a", "aaaa aaaaa|a", 200);
        set(s, "aaaaaaaaaa a", "aaaaaaaaaa|a", 200);
        // As many words as fit leave a line that may not be.
        set(style(new int[] {100, 10, 0, 10, 0, 0, 0, 9999}, 10), "aaaaaaaaaa a aaaaaaaa a",
                "aaaaaaaaaa|a aaaaaaaa|a", 300);
        set(style(new int[] {100, 10, 60, 10, 0, 0, 0, 9999}, 10), "aaaaa aa aaaaaaaaaa",
                "aaaaa aa|aaaaaaaaaa", 13 * 13 + 100);
    }

    private static void allMayBe() {
        Checks.sentence("IllegalStateException: there is no way to set it");
        String[] none = {"aaaaaaaaaaa", "aaaaaaaaa aaaaaaaaaa", "aaaaaaaaaa aaaaaaaaaaa",
            "aaaaaaaaaaa aaaaaaaaaa", "aaaaaaaaaa aaaaaaaaa aaaaaaaaaa", "aaaaaaaaaa a aaaaaaaaaa"};
        for (String typed : none) {
            Checks.refusedAndStays("paragraph '" + typed + "'", IllegalStateException.class, () -> {
                GalleySetter s = style(new int[] {100, 10, 0, 0, 0, 0, 0, 0}, 10);
                Checks.paragraph(s, "aaaa aaaaa");
                return Checks.typed(s, typed);
            }, GalleySetter::paragraph);
        }
        GalleySetter s = style(new int[] {100, 10, 0, 0, 0, 0, 0, 0}, 10);
        Checks.typed(s, "aaaaaaaaaaa");
        Checks.refused("one letter too wide", IllegalStateException.class, s::paragraph);
        s.set(0, 110);
        Checks.due("what is typed stays", s.paragraph(), 1);
    }

    private static void leastByHyphen() {
        Checks.sentence("of which the sum of demerits is least");
        GalleySetter s = style(new int[] {100, 10, 20, 5, 109, 0, 0, 9999}, 10, 5, 30);
        Checks.pattern(s, "1b");
        set(s, "bcc babbb cba", "bcc ba-|bbb cba", 100 + 109 * 109 + 100);
        s.set(4, 110);
        set(s, "bcc babbb cba", "bcc babbb|cba", 110 * 110 + 100);
    }

    private static void leastByDouble() {
        Checks.sentence("of which the sum of demerits is least; of several such ways");
        GalleySetter s = style(new int[] {60, 10, 20, 10, 0, 2119, 0, 9999}, 10, 5);
        Checks.pattern(s, "1b");
        String text = "b bba abbbaa abba";
        set(s, text, "b bba ab-|bbaa ab-|ba", 3187);
        s.set(5, 2120);
        set(s, text, "b bba abb-|baa abba", 3188);
        s.set(5, 2121);
        set(s, text, "b bba abb-|baa abba", 3188);
        GalleySetter other = style(new int[] {60, 10, 20, 5, 10, 11899, 0, 9999}, 10, 5, 5);
        Checks.pattern(other, "1b");
        text = "ca cbbcbbbbac ccbcc accc";
        set(other, text, "ca cbbcb-|bbbac cc-|bcc accc", 12399);
        other.set(5, 11900);
        set(other, text, "ca cbbcb-|bbbac cc-|bcc accc", 12400);
        other.set(5, 11901);
        set(other, text, "ca cbbcb-|bbbac ccbcc|accc", 12400);
    }

    private static void leastByApart() {
        Checks.sentence("of which the sum of demerits is least; of several such ways");
        GalleySetter s = style(new int[] {60, 10, 5, 5, 20, 0, 99, 9999}, 10, 5, 5);
        String text = "bbcbb bccc aaa ac c";
        set(s, text, "bbcbb bccc|aaa ac c", 24299);
        s.set(6, 100);
        set(s, text, "bbcbb bccc|aaa ac c", 24300);
        s.set(6, 101);
        set(s, text, "bbcbb bccc|aaa ac|c", 24300);
        s = style(new int[] {100, 10, 20, 5, 10, 0, 2219, 9999}, 10, 20, 5);
        text = "b aab cab aba a b";
        set(s, text, "b aab|cab aba a|b", 125431);
        s.set(6, 2220);
        set(s, text, "b aab|cab aba|a b", 125433);
        s.set(6, 2221);
        set(s, text, "b aab|cab aba|a b", 125434);
    }

    /** The best way to a break is not always a part of the best way to the end. */
    private static void classOfTheLineBefore() {
        Checks.sentence("APART if its class and that of the line before differ by more than 1");
        GalleySetter s = style(new int[] {100, 10, 20, 10, 0, 0, 9395, 9999}, 10, 15, 5);
        String text = "a aa aa bbaac ac accc b";
        set(s, text, "a aa aa|bbaac ac accc|b", 14903);
        s.set(6, 9397);
        set(s, text, "a aa aa|bbaac ac|accc b", 14904);
    }

    private static void lastLineDiffers() {
        Checks.sentence("of the last line in which they differ, the one in which that line begins earlier");
        set(style(new int[] {20, 0, 5, 5, 0, 0, 100, 9999}, 10, 20, 5), "b c b", "b|c b", 12200);
        set(style(new int[] {30, 0, 5, 10, 0, 0, 0, 9999}, 10, 20), "b a b b", "b a|b b", 12200);
        set(style(new int[] {60, 10, 20, 60, 0, 0, 0, 9999}, 10, 20, 25), "ac cc a b caab",
                "ac cc|a b caab", 1202);
        set(style(new int[] {20, 0, 60, 0, 0, 0, 0, 9999}, 5), "a a a a a", "a a|a a a", 200);
    }

    private static void earlierLineDiffers() {
        Checks.sentence("of the last line in which they differ, the one in which that line begins earlier");
        set(style(new int[] {20, 0, 60, 10, 0, 0, 0, 9999}, 10, 20), "b a b aa", "b|a b|aa", 12300);
        set(style(new int[] {50, 10, 10, 5, 0, 0, 0, 9999}, 10, 5, 25), "cb b b a c cbb",
                "cb b|b a c|cbb", 12684);
        set(style(new int[] {20, 0, 60, 0, 0, 0, 0, 9999}, 5), "a a a a a a a a a",
                "a a|a a a|a a a a", 300);
    }

    private static void sameBreakOfTwoClasses() {
        Checks.sentence("of the last line in which they differ, the one in which that line begins earlier");
        GalleySetter s = style(new int[] {60, 10, 10, 60, 0, 0, 0, 9999}, 10, 5, 25);
        Checks.pattern(s, "1b");
        set(s, "caac aa a bcab cabc", "caac aa|a bcab ca-|bc", 2105);
        GalleySetter other = style(new int[] {60, 10, 10, 60, 0, 0, 0, 9999}, 10, 15, 25);
        Checks.pattern(other, "1b");
        set(other, "aba cb bba bca ba cba", "aba cb|bba bca ba|cba", 1545);
    }

    private static void sumOfTheLatest() {
        Checks.sentence("The sum of demerits of the latest paragraph that was set; 0 when there was none");
        GalleySetter s = style(new int[] {30, 6, 3, 2, 50, 3000, 3000, 200}, 10);
        Checks.due("none", s.demerits(), 0);
        Checks.typed(s, "aaaa");
        Checks.refused("none was set", IllegalStateException.class, s::paragraph);
        Checks.due("none yet", s.demerits(), 0);
        Checks.paragraph(s, "aaa aaa");
        Checks.due("two lines", s.demerits(), 200);
        Checks.paragraph(s, "a");
        Checks.due("one line", s.demerits(), 100);
        Checks.paragraph(s, "aaa aaa a");
        Checks.due("three lines", s.demerits(), 300);
    }

    private static void sumStays() {
        Checks.sentence("The sum of demerits of the latest paragraph that was set");
        GalleySetter s = style(new int[] {30, 6, 3, 2, 50, 3000, 3000, 200}, 10);
        Checks.paragraph(s, "aaa aaa");
        Checks.typed(s, "aaaa");
        Checks.refused("no way", IllegalStateException.class, s::paragraph);
        Checks.due("behind a text without a way", s.demerits(), 200);
        s.wipe();
        Checks.refused("no text", IllegalArgumentException.class, s::paragraph);
        Checks.due("behind no text", s.demerits(), 200);
        s.set(4, 1000);
        s.width('a', 1);
        Checks.due("behind other parameters", s.demerits(), 200);
        s.clear();
        Checks.due("behind clear", s.demerits(), 200);
    }
}
