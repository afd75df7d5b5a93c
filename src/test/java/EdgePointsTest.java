/** The edges of a word's points and of promise 5, a sentence of the document at a time. */
public final class EdgePointsTest {
    public static void main(String[] args) {
        oneToTwentyLetters();
        dotsInFrontAndBehind();
        asLongAsTheWord();
        nothingBehindTheWord();
        sideBySide();
        eachDigitForItsPlace();
        greatestDigit();
        noneCounts();
        placesFromTwo();
        oddDigits();
        itStays();
        noWord();
        Checks.end();
    }

    private static GalleySetter with(String... patterns) {
        GalleySetter s = new GalleySetter();
        for (String typed : patterns) {
            Checks.pattern(s, typed);
        }
        return s;
    }

    private static int bits(int... places) {
        int all = 0;
        for (int i : places) {
            all |= 1 << i;
        }
        return all;
    }

    private static void points(String word, int due, String... patterns) {
        Checks.due(word + " by " + String.join(" ", patterns), Checks.points(with(patterns), word), due);
    }

    private static void oneToTwentyLetters() {
        Checks.sentence("a word with n letters (1 .. 20)");
        points("z", 0, "1z1");
        points("z".repeat(20), (1 << 19) - 4, "1z1");
        for (String typed : new String[] {"", "z".repeat(21), "z".repeat(80)}) {
            Checks.refusedAndStays("points of '" + typed + "'", IllegalArgumentException.class,
                    () -> Checks.typed(with("1z1"), typed), GalleySetter::points);
        }
    }

    private static void dotsInFrontAndBehind() {
        Checks.sentence("let the word have a dot in front and behind");
        points("abcabcabc", bits(2), ".ab1c");
        points("cabc", 0, ".a1b");
        points("abcabcabc", bits(7), "a1bc.");
        points("abca", 0, "b1c.");
        points("abcd", bits(2), ".ab1cd.");
        points("abcda", 0, ".ab1cd.");
        points("aabcd", 0, ".ab1cd.");
        points("abcdabcd", 0, ".ab1cd.");
    }

    private static void asLongAsTheWord() {
        Checks.sentence("Wherever a pattern's letters stand in that");
        points("abcdefgh", bits(4), ".abcd1efgh.");
        points("abcdefg", 0, ".abcd1efgh.");
        points("abcdefghi", 0, ".abcd1efgh.");
        points("abcd", 0, "ab1cdefgh");
        points("abcdefgh", bits(2), "ab1cdefgh");
        points("a", 0, ".1abcdefgh1.", "1a1");
    }

    private static void nothingBehindTheWord() {
        Checks.sentence("POINTS of a word");
        GalleySetter s = with("a1bcd", "x1xx");
        Checks.due("the whole", Checks.points(s, "bbabcd"), bits(3));
        Checks.due("its beginning: what was typed before is no part of it", Checks.points(s, "bbabc"), 0);
        Checks.due("shorter yet", Checks.points(s, "bbab"), 0);
        Checks.due("its end is not its beginning", Checks.points(s, "bcdbba"), 0);
        Checks.due("the whole again", Checks.points(s, "bbabcd"), bits(3));
    }

    private static void sideBySide() {
        Checks.sentence("Wherever a pattern's letters stand in that side by side");
        points("xaaaaaax", bits(2, 3, 4, 5, 6), "a1a");
        points("xabcabcx", bits(2, 5), "a1b");
        points("xababax", bits(3, 5), "ab1a");
        points("xacbx", 0, "a1b");
        points("xbax", 0, "a1b");
    }

    private static void eachDigitForItsPlace() {
        Checks.sentence("each digit of it counts for its place between the word's letters");
        String letters = "abcdefgh";
        for (int place = 0; place <= 8; place++) {
            String typed = letters.substring(0, place) + "1" + letters.substring(place);
            points("xx" + letters + "xx", bits(place + 2), typed);
        }
        points("xx" + letters + "xx", bits(2, 4, 6, 8, 10), "1a2b3c4d5e6f7g8h9");
        points(letters, bits(3, 5), ".2a4b6c3d8e5f2g2h4.");
        points(letters, bits(2, 6), ".1a2b1c4d6e8f7g1h1.");
    }

    private static void greatestDigit() {
        Checks.sentence("a place has the greatest digit that counts for it");
        points("xabx", bits(2), "a1b", "xa0b");
        points("xabx", 0, "a1b", "xa2b");
        points("xabx", 0, "xa2b", "a1b");
        points("xabx", bits(2), "a2b", "xa3b");
        points("xabx", bits(2), "xa3b", "a2b");
        points("xabx", bits(2), "a8b", "xa9b");
        points("xabx", bits(2), "xa9b", "a8b");
        points("xabx", 0, "a7b", "xa8b");
        points("xabx", 0, "xa8b", "a7b");
        points("xabx", bits(2), "a1b", "xa1b");
        points("xabx", 0, "a1b", "xa3b", "a4bx");
        points("xaaaax", bits(2, 3), "3a2a");
        points("xaaaax", bits(3, 4), "1a2a3");
    }

    private static void noneCounts() {
        Checks.sentence("(0 if none)");
        points("abcdefghijklmnopqrst", 0);
        points("abcd", 0, "x1x");
        points("abcd", 0, "abcd");
    }

    private static void placesFromTwo() {
        Checks.sentence("if i is 2 .. n - 2");
        int[] due = {0, 0, 0, 0, bits(2), bits(2, 3), bits(2, 3, 4)};
        for (int n = 1; n < due.length; n++) {
            points("a".repeat(n), due[n], "1a1");
        }
        points("a".repeat(19), (1 << 18) - 4, "1a1");
        points("abcdef", 0, ".1a");
        points("abcdef", 0, ".a1b");
        points("abcdef", bits(2), ".ab1c");
        points("abcdef", bits(4), "d1ef.");
        points("abcdef", 0, "e1f.");
        points("abcdef", 0, "f1.");
        points("abcdefghijklmnopqrst", bits(18), "r1st.");
        points("abcdefghijklmnopqrst", 0, "s1t.");
    }

    private static void oddDigits() {
        Checks.sentence("and the digit of that place is odd");
        for (int digit = 0; digit <= 9; digit++) {
            points("xabx", digit % 2 == 1 ? bits(2) : 0, "a" + digit + "b");
        }
    }

    private static void itStays() {
        Checks.sentence("The points of what is typed (it stays)");
        GalleySetter s = Checks.typed(with("a1b"), "xabx");
        Checks.due("points", s.points(), bits(2));
        Checks.due("points again", s.points(), bits(2));
        Checks.due("typed", s.type('a'), 5);
        Checks.due("typed", s.type('b'), 6);
        Checks.due("points of more", s.points(), bits(2));
        Checks.due("typed", s.type('b'), 7);
        Checks.due("points of more", s.points(), bits(2, 5));
    }

    private static void noWord() {
        Checks.sentence("IllegalArgumentException: it is not 1 .. 20 letters");
        String[] none = {" ", ".", "1", " a", "a ", "a b", ".a", "a.", "1a", "a1", "a1b",
            "a".repeat(20) + " ", " " + "a".repeat(19), "a".repeat(19) + ".", "a".repeat(19) + "1"};
        for (String typed : none) {
            Checks.refusedAndStays("points of '" + typed + "'", IllegalArgumentException.class,
                    () -> Checks.typed(with("1a1", "a1b"), typed), GalleySetter::points);
        }
    }
}
