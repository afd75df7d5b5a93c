/** The edges of promises 1 to 3, a sentence of the document at a time. */
public final class EdgeTypingTest {
    private static final String FULL = "a".repeat(19) + " " + "b".repeat(19) + " " + "c".repeat(19) + " "
            + "d".repeat(20);

    public static void main(String[] args) {
        noPatterns();
        nothingTyped();
        emptyGalley();
        howManyThereAre();
        noLetterDigitDotOrSpace();
        thereAreEighty();
        wrongCharacterBehindEighty();
        wiped();
        wipedAlone();
        Checks.end();
    }

    private static void noPatterns() {
        Checks.sentence("No patterns");
        GalleySetter s = new GalleySetter();
        for (char c = 'a'; c <= 'z'; c++) {
            Checks.due("points without patterns", Checks.points(s, ("" + c).repeat(5)), 0);
        }
        Checks.due("the first", Checks.pattern(s, "a"), 1);
        GalleySetter other = new GalleySetter();
        for (int i = 1; i <= 30; i++) {
            Checks.typed(other, "" + (char) ('a' + i % 5) + (char) ('a' + i / 5));
            Checks.due("room for 30", other.pattern(), i);
        }
    }

    private static void nothingTyped() {
        Checks.sentence("nothing typed");
        GalleySetter s = new GalleySetter();
        Checks.refused("points", IllegalArgumentException.class, s::points);
        Checks.refused("pattern", IllegalArgumentException.class, s::pattern);
        Checks.refused("paragraph", IllegalArgumentException.class, s::paragraph);
        Checks.due("the first character", s.type('a'), 1);
    }

    private static void emptyGalley() {
        Checks.sentence("an empty galley");
        GalleySetter s = new GalleySetter();
        Checks.due("lines", s.lines(), 0);
        Checks.due("demerits", s.demerits(), 0);
        Checks.refused("size", IndexOutOfBoundsException.class, () -> s.size(0));
        Checks.refused("at", IndexOutOfBoundsException.class, () -> s.at(0, 0));
        Checks.refused("x", IndexOutOfBoundsException.class, () -> s.x(0, 0));
        Checks.refused("badness", IndexOutOfBoundsException.class, () -> s.badness(0));
        Checks.refused("page", IndexOutOfBoundsException.class, () -> s.page(0));
        for (int i = 1; i <= 60; i++) {
            Checks.due("room for 60", Checks.typed(s, "a").paragraph(), 1);
        }
        Checks.due("lines", s.lines(), 60);
    }

    private static void howManyThereAre() {
        Checks.sentence("A character behind what is typed: how many there are");
        GalleySetter s = new GalleySetter();
        for (int i = 1; i <= 80; i++) {
            Checks.due("character " + i, s.type("z.9 a0".charAt(i % 6)), i);
        }
        GalleySetter word = new GalleySetter();
        Checks.pattern(word, "a1b");
        Checks.typed(word, "xab");
        Checks.due("three letters", word.points(), 0);
        Checks.due("one behind them", word.type('x'), 4);
        Checks.due("four letters", word.points(), 1 << 2);
    }

    private static void noLetterDigitDotOrSpace() {
        Checks.sentence("IllegalArgumentException: it is no letter, digit, dot or space");
        GalleySetter s = new GalleySetter();
        String good = "az09. ";
        for (int i = 0; i < good.length(); i++) {
            Checks.due("type " + good.charAt(i), s.type(good.charAt(i)), i + 1);
        }
        for (char c : "`{AZ@[/:-,!\t\n\u001f\u0000\u00a0\u00e0\u0130\u0161\u0660\uff41\uffff".toCharArray()) {
            for (String typed : new String[] {"", "ab", FULL.substring(0, 79)}) {
                Checks.refusedAndStays("type " + (int) c, IllegalArgumentException.class,
                        () -> wide(typed), setter -> setter.type(c));
            }
        }
    }

    private static GalleySetter wide(String typed) {
        GalleySetter s = new GalleySetter();
        s.set(0, 600);
        for (char c = 'a'; c <= 'd'; c++) {
            s.width(c, 2);
        }
        return Checks.typed(s, typed);
    }

    private static void thereAreEighty() {
        Checks.sentence("IllegalStateException: there are 80");
        Checks.due("the last that is allowed", wide(FULL.substring(0, 79)).type('d'), 80);
        for (char c : new char[] {'a', 'z', '0', '9', '.', ' '}) {
            Checks.refusedAndStays("type " + c + " behind 80", IllegalStateException.class,
                    () -> wide(FULL), s -> s.type(c));
        }
        GalleySetter s = wide(FULL);
        Checks.refused("character 81", IllegalStateException.class, () -> s.type('z'));
        Checks.refused("again", IllegalStateException.class, () -> s.type('z'));
        Checks.due("the 80 are set", s.paragraph(), 1);
        Checks.due("as they were typed", Checks.line(s, 0), FULL);
        Checks.due("room again", s.type('z'), 1);
    }

    /** Both exceptions fit: the one that is named first is thrown. */
    private static void wrongCharacterBehindEighty() {
        Checks.sentence("IllegalArgumentException: it is no letter, ...; IllegalStateException: there are 80");
        Checks.refusedAndStays("type - behind 80", IllegalArgumentException.class,
                () -> wide(FULL), s -> s.type('-'));
    }

    private static void wiped() {
        Checks.sentence("Nothing is typed");
        for (String typed : new String[] {"", "a", FULL}) {
            GalleySetter s = wide(typed);
            s.wipe();
            Checks.refused("points", IllegalArgumentException.class, s::points);
            Checks.refused("pattern", IllegalArgumentException.class, s::pattern);
            Checks.refused("paragraph", IllegalArgumentException.class, s::paragraph);
            Checks.due("type", s.type('b'), 1);
            Checks.due("paragraph", s.paragraph(), 1);
            Checks.due("what was typed is gone", Checks.line(s, 0), "b");
            s.wipe();
            s.wipe();
            Checks.due("type", s.type('b'), 1);
        }
    }

    private static void wipedAlone() {
        Checks.sentence("Nothing is typed");
        GalleySetter s = wide("ab cd");
        Checks.pattern(s, "a1b");
        Checks.paragraph(s, "ab cd");
        Checks.typed(s, "xx");
        s.wipe();
        Checks.due("the galley stays", Checks.galley(s), "ab cd");
        Checks.due("demerits stay", s.demerits(), 100);
        Checks.due("patterns stay", Checks.points(s, "xabx"), 1 << 2);
        Checks.due("how many there are", Checks.pattern(s, "b1a"), 2);
        Checks.paragraph(s, "dd");
        Checks.due("widths stay", s.x(1, 1), 2);
    }
}
