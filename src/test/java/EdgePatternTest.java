/** The edges of a pattern and of promise 4, a sentence of the document at a time. */
public final class EdgePatternTest {
    public static void main(String[] args) {
        firstAndLastLetter();
        oneToEightLetters();
        oneDigitInFront();
        oneDigitBehindTheLast();
        dotsAtTheEnds();
        nothingElse();
        everyShortText();
        dotsAreLetters();
        digitNotWritten();
        atMostThirty();
        thirtyWithoutOnesThatWent();
        oneWithTheSameLettersGoes();
        nothingIsTypedThen();
        thirtyAndNoneHasItsLetters();
        Checks.end();
    }

    private static void taken(String typed) {
        GalleySetter s = new GalleySetter();
        Checks.due("pattern '" + typed + "'", Checks.outcome(() -> Checks.pattern(s, typed)), "1");
    }

    private static void none(String typed) {
        Checks.refusedAndStays("pattern '" + typed + "'", IllegalArgumentException.class,
                () -> Checks.typed(withTwo(), typed), GalleySetter::pattern);
    }

    private static GalleySetter withTwo() {
        GalleySetter s = new GalleySetter();
        Checks.pattern(s, "a1b");
        Checks.pattern(s, "b3b");
        Checks.paragraph(s, "cd e");
        return s;
    }

    private static void firstAndLastLetter() {
        Checks.sentence("LETTERS are a .. z");
        taken("a");
        taken("z");
        GalleySetter s = new GalleySetter();
        for (char c : new char[] {'`', '{', 'A', 'Z', '@', '[', '\u00e4'}) {
            Checks.refused("type " + c, IllegalArgumentException.class, () -> s.type(c));
        }
    }

    private static void oneToEightLetters() {
        Checks.sentence("A PATTERN is written as letters (1 to 8)");
        String[] none = {"", "1", ".", "..", ".1", "1.", ".1."};
        for (String typed : none) {
            none(typed);
        }
        taken("a");
        taken("abcdefgh");
        taken("aaaaaaaa");
        taken(".abcdefgh.");
        taken(".1a2b3c4d5e6f7g8h9.");
        none("abcdefghi");
        none("aaaaaaaaa");
        none("abcdefghi.");
        none(".abcdefghi");
        none(".1a2b3c4d5e6f7g8h9i0.");
        none("a".repeat(80));
        none("1a".repeat(40));
    }

    private static void oneDigitInFront() {
        Checks.sentence("each of which may have one digit in front of it");
        taken("0a");
        taken("9a");
        taken("a5b");
        taken("ab5c");
        taken(".5a");
        none("00a");
        none("12a");
        none("a12b");
        none("ab12c");
        none(".12a");
        none("1a2b34c");
    }

    private static void oneDigitBehindTheLast() {
        Checks.sentence("and the last one a digit behind");
        taken("a0");
        taken("a9");
        taken("a9.");
        taken("1abcdefgh1");
        none("a00");
        none("a12");
        none("a12.");
        none("abcdefgh12");
    }

    private static void dotsAtTheEnds() {
        Checks.sentence("a dot may stand in front of all that, or behind all, or both");
        taken(".a");
        taken("a.");
        taken(".a.");
        taken(".1a");
        taken("a1.");
        none("..a");
        none("a..");
        none("..a..");
        none(".a..");
        none("..a.");
        none("a.b");
        none(".a.b.");
        none("1.a");
        none("1.1a");
        none("a.1");
        none("a1.1");
    }

    private static void nothingElse() {
        Checks.sentence("IllegalArgumentException: it is none");
        none(" ");
        none(" a");
        none("a ");
        none("a b");
        none(". a");
        none(" .a");
        none("a. ");
        none(" ".repeat(80));
    }

    private static void everyShortText() {
        Checks.sentence("A PATTERN is written as letters (1 to 8), each of which ...");
        String[] all = {""};
        for (int length = 0; length <= 5; length++) {
            for (String typed : all) {
                GalleySetter s = Checks.typed(new GalleySetter(), typed);
                boolean isOne = typed.matches("\\.?([0-9]?[a-z])+[0-9]?\\.?");
                Checks.due("pattern '" + typed + "'", Checks.outcome(s::pattern),
                        isOne ? "1" : "IllegalArgumentException");
            }
            all = oneLonger(all);
        }
    }

    private static String[] oneLonger(String[] all) {
        String[] longer = new String[all.length * 4];
        for (int i = 0; i < longer.length; i++) {
            longer[i] = all[i / 4] + "a1. ".charAt(i % 4);
        }
        return longer;
    }

    private static void dotsAreLetters() {
        Checks.sentence("Its LETTERS are these and the dots");
        GalleySetter s = new GalleySetter();
        String[] apart = {"ab", ".ab", "ab.", ".ab.", "abc", "a", "ba"};
        for (int i = 0; i < apart.length; i++) {
            Checks.due("pattern " + apart[i], Checks.pattern(s, apart[i]), i + 1);
        }
        String[] again = {"1a1b1", ".1a1b1", "1a1b1.", ".1a1b1.", "a1bc", "a1", "b1a"};
        for (String typed : again) {
            Checks.due("pattern " + typed, Checks.pattern(s, typed), apart.length);
        }
    }

    private static void digitNotWritten() {
        Checks.sentence("a digit that is not written is 0");
        GalleySetter s = new GalleySetter();
        Checks.pattern(s, "1a1b1");
        Checks.due("with digits", Checks.points(s, "xxabxx"), 1 << 2 | 1 << 3 | 1 << 4);
        Checks.due("the same letters", Checks.pattern(s, "ab"), 1);
        Checks.due("without digits", Checks.points(s, "xxabxx"), 0);
        Checks.pattern(s, "1ab");
        Checks.due("one in front", Checks.points(s, "xxabxx"), 1 << 2);
        Checks.pattern(s, "ab1");
        Checks.due("one behind", Checks.points(s, "xxabxx"), 1 << 4);
        Checks.pattern(s, "a1b");
        Checks.due("one between", Checks.points(s, "xxabxx"), 1 << 3);
        Checks.pattern(s, "0a0b0");
        Checks.due("0 is written", Checks.points(s, "xxabxx"), 0);
    }

    private static GalleySetter withThirty() {
        GalleySetter s = new GalleySetter();
        for (char c = 'a'; c <= 'z'; c++) {
            Checks.typed(s, c + "m").pattern();
        }
        for (char c = 'a'; c <= 'd'; c++) {
            Checks.typed(s, c + "n").pattern();
        }
        return s;
    }

    private static void atMostThirty() {
        Checks.sentence("There are at most 30 patterns");
        GalleySetter s = new GalleySetter();
        for (int i = 0; i < 30; i++) {
            String letters = "" + (char) ('a' + i / 6) + (char) ('a' + i % 6);
            Checks.due("pattern " + letters, Checks.pattern(s, letters), i + 1);
        }
        Checks.typed(s, "zz");
        Checks.refused("pattern 31", IllegalStateException.class, s::pattern);
    }

    private static void thirtyWithoutOnesThatWent() {
        Checks.sentence("one with the same letters goes: how many there are then");
        GalleySetter s = new GalleySetter();
        for (int i = 0; i < 40; i++) {
            Checks.due("the same again", Checks.typed(s, "a" + i % 10 + "b").pattern(), 1);
        }
        for (int i = 1; i < 30; i++) {
            String letters = "" + (char) ('c' + i / 6) + (char) ('c' + i % 6);
            Checks.due("pattern " + letters, Checks.typed(s, letters).pattern(), i + 1);
        }
    }

    private static void oneWithTheSameLettersGoes() {
        Checks.sentence("IllegalStateException: there are 30, and none has its letters");
        GalleySetter s = withThirty();
        Checks.due("the first again", Checks.pattern(s, "a1m"), 30);
        Checks.due("it counts", Checks.points(s, "xamx"), 1 << 2);
        Checks.due("the last again", Checks.pattern(s, "d1n"), 30);
        Checks.due("it counts", Checks.points(s, "xdnx"), 1 << 2);
        Checks.due("one in the middle again", Checks.pattern(s, "p1m"), 30);
        Checks.due("it counts", Checks.points(s, "xpmx"), 1 << 2);
        Checks.due("the first once more", Checks.pattern(s, "am"), 30);
        Checks.due("the old one is gone", Checks.points(s, "xamx"), 0);
        Checks.due("the others stay", Checks.points(s, "xpmdnx"), 1 << 2 | 1 << 4);
    }

    private static void nothingIsTypedThen() {
        Checks.sentence("Nothing is typed then");
        GalleySetter s = new GalleySetter();
        Checks.pattern(s, "a1b");
        Checks.due("typed behind pattern", s.type('a'), 1);
        s.wipe();
        Checks.pattern(s, "a3b");
        Checks.refused("nothing is no pattern", IllegalArgumentException.class, s::pattern);
        Checks.due("typed behind the same letters", s.type('a'), 1);
    }

    private static void thirtyAndNoneHasItsLetters() {
        Checks.sentence("(What is typed stays then.)");
        for (String typed : new String[] {"a1b", "zz", ".am", "am.", ".am.", "a", "m", "amm", "3ababbc3"}) {
            Checks.refusedAndStays("pattern " + typed, IllegalStateException.class,
                    () -> Checks.typed(withThirty(), typed), GalleySetter::pattern);
        }
        GalleySetter s = Checks.typed(withThirty(), "3m3n3");
        Checks.refused("pattern 31", IllegalStateException.class, s::pattern);
        Checks.due("it does not count", Checks.points(s, "xxmnxx"), 0);
        Checks.typed(s, "a");
        Checks.refused("nor takes one's place", IllegalStateException.class, s::pattern);
        s.wipe();
        Checks.due("which can be put anew", Checks.pattern(s, "a1m"), 30);
        Checks.typed(s, "12a");
        Checks.refused("none at all, when there are 30", IllegalArgumentException.class, s::pattern);
    }
}
