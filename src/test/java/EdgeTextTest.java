/** The edges of a text, its breaks and its lines, a sentence of the document at a time. */
public final class EdgeTextTest {
    public static void main(String[] args) {
        wordsOfOneToTwentyLetters();
        oneSpaceOrMore();
        spacesAtTheEnds();
        eightyCharacters();
        noTextWithAWord();
        breakAtEachSpace();
        breakAtEachPoint();
        pointsOfEachWord();
        noBreakElsewhere();
        lettersAndSpacesOfALine();
        hyphenAtAPoint();
        widthOfALine();
        manySpacesOfALine();
        asTheyAreNow();
        goesOnBehindARefusal();
        Checks.end();
    }

    private static GalleySetter with(int measure, String... patterns) {
        GalleySetter s = new GalleySetter();
        s.set(0, measure);
        for (String typed : patterns) {
            Checks.pattern(s, typed);
        }
        return s;
    }

    /** The lines of the text, or the exception. */
    private static String lines(GalleySetter s, String typed) {
        s.clear();
        return Checks.outcome(() -> {
            Checks.paragraph(s, typed);
            return Checks.galley(s);
        });
    }

    private static void wordsOfOneToTwentyLetters() {
        Checks.sentence("A TEXT is words (of 1 .. 20 letters)");
        GalleySetter s = with(600);
        String twenty = "a".repeat(20);
        Checks.due("one letter", lines(s, "a"), "a");
        Checks.due("twenty letters", lines(s, twenty), twenty);
        Checks.due("two such words", lines(s, twenty + " " + twenty), twenty + " " + twenty);
        String[] none = {twenty + "a", twenty + "a b", "b " + twenty + "a", "b " + twenty + "a c",
            "  " + twenty + "a  ", "a".repeat(80)};
        for (String typed : none) {
            Checks.refusedAndStays("paragraph '" + typed + "'", IllegalArgumentException.class,
                    () -> Checks.typed(with(600), typed), GalleySetter::paragraph);
        }
    }

    private static void oneSpaceOrMore() {
        Checks.sentence("with one space or more between them ... those between count as one");
        GalleySetter s = with(120);
        Checks.due("one", lines(s, "a b"), "a b");
        Checks.due("its places", Checks.places(s, 0), "0 10 16");
        Checks.due("two", lines(s, "a  b"), "a b");
        Checks.due("its places", Checks.places(s, 0), "0 10 16");
        Checks.due("78", lines(s, "a" + " ".repeat(78) + "b"), "a b");
        Checks.due("its places", Checks.places(s, 0), "0 10 16");
        Checks.due("several times", lines(s, "a  b   c"), "a b c");
    }

    private static void spacesAtTheEnds() {
        Checks.sentence("perhaps some in front or behind; these are left out");
        GalleySetter s = with(20);
        Checks.due("one in front", lines(s, " ab"), "ab");
        Checks.due("its places", Checks.places(s, 0), "0 10");
        Checks.due("one behind", lines(s, "ab "), "ab");
        Checks.due("badness", s.badness(0), 10000);
        Checks.due("both", lines(s, "  ab cd  "), "ab|cd");
        Checks.due("79 in front", lines(s, " ".repeat(79) + "z"), "z");
        GalleySetter other = with(20);
        Checks.due("79 behind", lines(other, "z" + " ".repeat(79)), "z");
        Checks.due("size", other.size(0), 1);
    }

    private static void eightyCharacters() {
        Checks.sentence("What is typed is set as a paragraph");
        GalleySetter s = with(600);
        s.width('a', 1);
        String full = "a".repeat(20) + " " + "a".repeat(19) + " " + "a".repeat(19) + " " + "a".repeat(19);
        Checks.due("typed", full.length(), 80);
        Checks.due("80 characters and none left out", lines(s, full), full);
        Checks.due("their number", s.size(0), 80);
        Checks.due("the last one's place", s.x(0, 79), 77 - 1 + 3 * 6);
    }

    private static void noTextWithAWord() {
        Checks.sentence("IllegalArgumentException: it is no text with a word");
        String[] none = {"", " ", "  ", " ".repeat(80), ".", "1", "a.", ".a", "a1", "1a", "a1b", "a.b", "a 1",
            "1 a", "a . b", "ab cd.", ".ab cd", "ab 0cd", " 9", ". "};
        for (String typed : none) {
            Checks.refusedAndStays("paragraph '" + typed + "'", IllegalArgumentException.class, () -> {
                GalleySetter s = with(100, "b1b");
                Checks.paragraph(s, "ab cd");
                return Checks.typed(s, typed);
            }, GalleySetter::paragraph);
        }
    }

    private static void breakAtEachSpace() {
        Checks.sentence("BREAKS are its beginning, each space, each point in a word, and its end");
        GalleySetter s = with(20);
        Checks.due("no space", lines(s, "ab"), "ab");
        Checks.due("one space", lines(s, "ab cd"), "ab|cd");
        Checks.due("spaces side by side are one", lines(s, "ab   cd"), "ab|cd");
        Checks.due("all spaces", lines(s, "ab cd ef gh ij"), "ab|cd|ef|gh|ij");
        s.width('a', 20);
        Checks.due("forty words, a line each", Checks.outcome(() -> Checks.paragraph(s, "a ".repeat(40))), "40");
    }

    private static void breakAtEachPoint() {
        Checks.sentence("each point in a word");
        GalleySetter s = with(30, "1b");
        Checks.due("the first and the last place of four letters", lines(s, "aabb"), "aa-|bb");
        Checks.due("the first place", lines(s, "aabcc"), "aa-|bcc");
        Checks.due("not the one in front of it", lines(s, "abccc"), "IllegalStateException");
        Checks.due("the last place", lines(s, "aabbb"), "aa-|bbb");
        Checks.due("not the one behind it", lines(with(40, "1b"), "aaaab"), "IllegalStateException");
        s.width('b', 20);
        s.width('a', 10);
        Checks.due("all of them", lines(s, "aabbbba"), "aa-|b-|b-|b-|ba");
        GalleySetter other = with(600, "r1st.");
        other.width('a', 33);
        other.width('r', 30);
        other.width('-', 9);
        Checks.due("in front of letter 18 of 20", lines(other, "a".repeat(17) + "rst"), "a".repeat(17) + "r-|st");
    }

    private static void pointsOfEachWord() {
        Checks.sentence("let the word have a dot in front and behind");
        GalleySetter s = with(30, ".ab1c");
        Checks.due("the first word", lines(s, "abcd"), "ab-|cd");
        Checks.due("the second", lines(s, "xxx abcd"), "xxx|ab-|cd");
        Checks.due("the last of three", lines(s, "xxx xxx abcd"), "xxx|xxx|ab-|cd");
        Checks.due("not within a word", lines(with(40, ".ab1c"), "xabcd"), "IllegalStateException");
        Checks.due("a dot behind", lines(with(30, "b1cdd."), "abcdd xx"), "ab-|cdd|xx");
        Checks.due("two words are not one", lines(with(30, "b1c"), "aab caa"), "aab|caa");
        Checks.due("each by itself", lines(with(30, "1ccc"), "abccc ccc abccc"), "ab-|ccc|ccc|ab-|ccc");
    }

    private static void noBreakElsewhere() {
        Checks.sentence("A LINE goes from one break to a later one");
        Checks.due("a word without points", lines(with(40), "aaaaa"), "IllegalStateException");
        Checks.due("just as wide as the measure", lines(with(50), "aaaaa"), "aaaaa");
        Checks.due("an even digit", lines(with(30, "2b"), "aabb"), "IllegalStateException");
    }

    private static void lettersAndSpacesOfALine() {
        Checks.sentence("it has the letters between, a space between words");
        GalleySetter s = with(46);
        Checks.due("the space where a line ends is in none", lines(s, "ab cd ef gh"), "ab cd|ef gh");
        Checks.due("size", s.size(0), 5);
        Checks.due("size", s.size(1), 5);
        Checks.due("the space between", s.at(0, 2), ' ');
        Checks.due("the next line begins with a letter", s.at(1, 0), 'e');
        Checks.due("at its edge", s.x(1, 0), 0);
    }

    private static void hyphenAtAPoint() {
        Checks.sentence("and a hyphen - if it ends at a point");
        GalleySetter s = with(30, "1bb");
        Checks.due("ends at a point", lines(s, "aabb"), "aa-|bb");
        Checks.due("with it", s.size(0), 3);
        Checks.due("it is", s.at(0, 2), '-');
        Checks.due("where it is", s.x(0, 2), 20);
        Checks.due("begins at one, ends the text", s.size(1), 2);
        Checks.due("ends at a space", lines(s, "aaa bb"), "aaa|bb");
        Checks.due("begins at one, ends at a space", lines(s, "aabbb aa"), "aa-|bbb|aa");
        s.set(0, 60);
        Checks.due("a point within", lines(s, "aabb"), "aabb");
    }

    private static void widthOfALine() {
        Checks.sentence("Its width is those of its letters (and hyphen) and, for each of its g spaces, SPACE");
        GalleySetter s = with(30, "1bb");
        s.width('-', 11);
        Checks.due("the hyphen is one too wide", lines(s, "aabb"), "IllegalStateException");
        s.set(0, 31);
        Checks.due("it fits", lines(s, "aabb"), "aa-|bb");
        s.set(0, 32);
        Checks.due("it is one too narrow", lines(s, "aabb"), "IllegalStateException");
        s.set(0, 26);
        s.set(3, 0);
        Checks.due("one space", lines(s, "a a"), "a a");
        s.set(0, 25);
        Checks.due("one too wide", lines(s, "a a"), "IllegalStateException");
        s.set(1, 5);
        Checks.due("a smaller SPACE", lines(s, "a a"), "a a");
        s.set(0, 39);
        Checks.due("two spaces too wide", lines(s, "a a a"), "IllegalStateException");
        s.set(0, 40);
        Checks.due("two spaces", lines(s, "a a a"), "a a a");
    }

    private static void manySpacesOfALine() {
        Checks.sentence("for each of its g spaces, SPACE");
        GalleySetter s = with(600);
        s.set(1, 15);
        s.set(2, 0);
        s.set(3, 0);
        s.width('a', 1);
        s.width('b', 15);
        Checks.due("39 spaces: 585, and 40", Checks.outcome(() ->
                Checks.paragraph(s, "a ".repeat(39) + "a")), "IllegalStateException");
        s.set(1, 14);
        Checks.due("39 spaces: 546, and 54", Checks.outcome(() ->
                Checks.paragraph(s, "a ".repeat(39) + "b")), "1");
        Checks.due("the last one's place", s.x(0, 78), 39 + 39 * 14);
        s.width('b', 16);
        Checks.due("one too wide", Checks.outcome(() ->
                Checks.paragraph(s, "a ".repeat(39) + "b")), "IllegalStateException");
    }

    private static void asTheyAreNow() {
        Checks.sentence("What is typed is set as a paragraph, as patterns, parameters and widths are now");
        GalleySetter s = Checks.typed(with(40, "1bb"), "aabb cc");
        s.set(0, 30);
        s.width('b', 15);
        Checks.due("MEASURE and a width that changed behind the text", Checks.outcome(s::paragraph), "3");
        Checks.due("lines", Checks.galley(s), "aa-|bb|cc");
        Checks.due("places", Checks.places(s, 1), "0 15");
        Checks.pattern(s, "2bb");
        Checks.due("a pattern that changed", lines(s, "aabb cc"), "IllegalStateException");
        Checks.pattern(s, "1bb");
        Checks.due("and changed again", lines(s, "aabb cc"), "aa-|bb|cc");
        GalleySetter once = with(30, "1bb");
        Checks.typed(once, "aabb").paragraph();
        once.set(0, 600);
        Checks.due("the same text, now in a line", Checks.typed(once, "aabb").paragraph(), 1);
        Checks.due("what was set stays", Checks.galley(once), "aa-|bb|aabb");
    }

    private static void goesOnBehindARefusal() {
        Checks.sentence("(What is typed stays then.)");
        GalleySetter s = with(100, "1bb");
        Checks.refused("nothing is typed", IllegalArgumentException.class, s::paragraph);
        Checks.due("type", s.type(' '), 1);
        Checks.refused("a space", IllegalArgumentException.class, s::paragraph);
        Checks.due("type", s.type('a'), 2);
        Checks.due("a word", s.paragraph(), 1);
        s.set(0, 30);
        Checks.typed(s, "aabbb");
        s.set(0, 20);
        Checks.refused("no way", IllegalStateException.class, s::paragraph);
        Checks.due("type", s.type(' '), 6);
        Checks.due("type", s.type('c'), 7);
        s.set(0, 30);
        Checks.due("a way", s.paragraph(), 3);
        Checks.due("lines", Checks.galley(s), "a|aa-|bbb|c");
    }
}
