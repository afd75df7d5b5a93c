import java.util.function.Supplier;

/** The edges of places and of promises 10 to 14, a sentence of the document at a time. */
public final class EdgePlacesTest {
    public static void main(String[] args) {
        widthsInFront();
        spaceForEachSpace();
        shareOfTheSpaces();
        cutTowardsZero();
        allAreShared();
        lineWithoutSpaces();
        lineThatEndsItsText();
        asItWasSet();
        howManyLines();
        howManyCharacters();
        noSuchLine();
        noSuchCharacter();
        notTheNeighbour();
        Checks.end();
    }

    private static GalleySetter style(int measure, int space, int stretch, int shrink) {
        GalleySetter s = new GalleySetter();
        s.set(0, measure);
        s.set(1, space);
        s.set(2, stretch);
        s.set(3, shrink);
        s.set(7, 9999);
        return s;
    }

    private static void places(GalleySetter s, String text, String due) {
        s.clear();
        Checks.due("places of " + text, Checks.outcome(() -> {
            Checks.paragraph(s, text);
            return Checks.places(s, 0);
        }), due);
    }

    private static void widthsInFront() {
        Checks.sentence("Character i of a line is at x: the widths of those in front of it");
        GalleySetter s = style(600, 6, 0, 0);
        s.width('a', 1);
        s.width('z', 60);
        places(s, "z", "0");
        places(s, "zaz", "0 60 61");
        places(s, "aza", "0 1 61");
        GalleySetter other = style(31, 6, 0, 0);
        other.width('-', 11);
        Checks.pattern(other, "1bb");
        places(other, "aabb", "0 10 20");
        Checks.due("the next line begins at 0", Checks.places(other, 1), "0 10");
    }

    private static void spaceForEachSpace() {
        Checks.sentence("SPACE for each space of them");
        places(style(600, 0, 0, 0), "a a a", "0 10 10 20 20");
        places(style(600, 6, 0, 0), "a a a", "0 10 16 26 32");
        places(style(600, 60, 0, 0), "a a a", "0 10 70 80 140");
    }

    private static void shareOfTheSpaces() {
        Checks.sentence("if j of the line's g spaces are in front of it, e * j / g more");
        // e is 10, 11 and 12 for three spaces; a space itself has only those in front of it.
        places(style(80, 10, 60, 0), "a a a a bbbbbbbb", "0 10 23 33 46 56 70");
        places(style(81, 10, 60, 0), "a a a a bbbbbbbb", "0 10 23 33 47 57 71");
        places(style(82, 10, 60, 0), "a a a a bbbbbbbb", "0 10 24 34 48 58 72");
        places(style(71, 10, 60, 0), "a a a a bbbbbbb", "0 10 20 30 40 50 61");
    }

    private static void cutTowardsZero() {
        Checks.sentence("(cut towards 0; e may be below 0)");
        places(style(69, 10, 0, 60), "a a a a", "0 10 20 30 40 50 59");
        places(style(68, 10, 0, 60), "a a a a", "0 10 20 30 39 49 58");
        places(style(67, 10, 0, 60), "a a a a", "0 10 19 29 38 48 57");
        places(style(66, 10, 0, 60), "a a a a", "0 10 19 29 38 48 56");
        places(style(65, 10, 0, 60), "a a a a", "0 10 19 29 37 47 55");
        places(style(20, 0, 0, 60), "a a a a", "0 10 4 14 7 17 10");
    }

    private static void allAreShared() {
        Checks.sentence("its lines are justified to whole places");
        for (int measure = 60; measure <= 90; measure++) {
            GalleySetter s = style(measure, 10, 10, 10);
            s.width('m', measure / 2);
            s.width('n', measure - measure / 2);
            Checks.paragraph(s, "a a a a mn");
            Checks.due("lines", s.lines(), 2);
            Checks.due("the last one ends at " + measure, s.x(0, 6) + 10, measure);
            Checks.due("the first one begins at 0", s.x(0, 0), 0);
        }
    }

    private static void lineWithoutSpaces() {
        Checks.sentence("if j of the line's g spaces are in front of it");
        places(style(30, 6, 0, 0), "aaa aaa", "0 10 20");
        places(style(600, 6, 60, 60), "aaa", "0 10 20");
        places(style(30, 6, 60, 60), "aaa", "0 10 20");
    }

    private static void lineThatEndsItsText() {
        Checks.sentence("but not in a line that ends its text with e above 0");
        places(style(36, 6, 60, 60), "a bb", "0 10 16 26");
        places(style(37, 6, 60, 60), "a bb", "0 10 16 26");
        places(style(600, 6, 60, 60), "a bb", "0 10 16 26");
        places(style(35, 6, 60, 60), "a bb", "0 10 15 25");
        places(style(30, 6, 60, 60), "a bb", "0 10 10 20");
        places(style(37, 6, 60, 0), "a bb ccc", "0 10 17 27");
    }

    private static void asItWasSet() {
        Checks.sentence("Where it is (as it was set)");
        GalleySetter s = style(80, 10, 60, 0);
        Checks.paragraph(s, "a a a a bbbbbbbb");
        int badness = s.badness(0);
        for (int parameter = 0; parameter < 8; parameter++) {
            s.set(parameter, 25);
        }
        s.width('a', 60);
        s.width('b', 60);
        Checks.pattern(s, "b1b");
        Checks.typed(s, "aaa");
        s.wipe();
        Checks.due("places", Checks.places(s, 0), "0 10 23 33 46 56 70");
        Checks.due("places of the last line", Checks.places(s, 1), "0 10 20 30 40 50 60 70");
        Checks.due("characters", Checks.galley(s), "a a a a|bbbbbbbb");
        Checks.due("badness", s.badness(0), badness);
    }

    private static void howManyLines() {
        Checks.sentence("How many lines the galley has");
        GalleySetter s = style(20, 6, 0, 0);
        Checks.due("none", s.lines(), 0);
        Checks.paragraph(s, "a");
        Checks.due("one", s.lines(), 1);
        Checks.paragraph(s, "aa aa a");
        Checks.due("and three", s.lines(), 4);
        Checks.typed(s, "aaa");
        Checks.refused("no way", IllegalStateException.class, s::paragraph);
        Checks.due("and none", s.lines(), 4);
        s.clear();
        Checks.due("none again", s.lines(), 0);
    }

    private static void howManyCharacters() {
        Checks.sentence("How many characters line k of the galley has (from 0)");
        GalleySetter s = style(30, 10, 0, 0);
        s.width('c', 5);
        Checks.pattern(s, "1bb");
        Checks.paragraph(s, "a a aabbb cccccc z");
        Checks.due("lines", Checks.galley(s), "a a|aa-|bbb|cccccc|z");
        int[] due = {3, 3, 3, 6, 1};
        for (int k = 0; k < due.length; k++) {
            Checks.due("size " + k, s.size(k), due[k]);
        }
        s.set(0, 600);
        s.width('c', 1);
        Checks.paragraph(s, ("c".repeat(19) + " ").repeat(3) + "c".repeat(20));
        Checks.due("80 characters", s.size(5), 80);
    }

    private static GalleySetter twoLines() {
        GalleySetter s = style(40, 6, 3, 2);
        Checks.paragraph(s, "abcd ef");
        return s;
    }

    private static void noSuchLine() {
        Checks.sentence("IndexOutOfBoundsException: there is none");
        Checks.due("the first line", twoLines().size(0), 4);
        Checks.due("the last line", twoLines().size(1), 2);
        Checks.due("its badness", twoLines().badness(1), 10000);
        Checks.due("its page", twoLines().page(1), 0);
        for (int k : new int[] {-1, 2, 59, 60, -1 << 16, 1 << 16, Integer.MIN_VALUE, Integer.MAX_VALUE}) {
            noLine("of two", EdgePlacesTest::twoLines, k);
        }
        for (int k : new int[] {-1, 0, 1}) {
            noLine("of a new object", GalleySetter::new, k);
        }
        noLine("of a cleared galley", () -> {
            GalleySetter s = twoLines();
            s.clear();
            return s;
        }, 0);
    }

    private static void noLine(String what, Supplier<GalleySetter> make, int k) {
        Class<IndexOutOfBoundsException> due = IndexOutOfBoundsException.class;
        String line = " of line " + k + " " + what;
        Checks.refusedAndStays("size" + line, due, make, s -> s.size(k));
        Checks.refusedAndStays("at" + line, due, make, s -> s.at(k, 0));
        Checks.refusedAndStays("x" + line, due, make, s -> s.x(k, 0));
        Checks.refusedAndStays("badness" + line, due, make, s -> s.badness(k));
        Checks.refusedAndStays("page" + line, due, make, s -> s.page(k));
    }

    private static void noSuchCharacter() {
        Checks.sentence("Character i of line k. IndexOutOfBoundsException: there is none");
        Checks.due("the first", twoLines().at(1, 0), 'e');
        Checks.due("the last", twoLines().at(1, 1), 'f');
        Checks.due("its place", twoLines().x(1, 1), 10);
        for (int i : new int[] {-1, 2, 3, 79, 80, 1 << 16, Integer.MIN_VALUE, Integer.MAX_VALUE}) {
            Checks.refusedAndStays("at " + i, IndexOutOfBoundsException.class,
                    EdgePlacesTest::twoLines, s -> s.at(1, i));
            Checks.refusedAndStays("x " + i, IndexOutOfBoundsException.class,
                    EdgePlacesTest::twoLines, s -> s.x(1, i));
        }
        GalleySetter divided = style(30, 6, 0, 0);
        Checks.pattern(divided, "1bb");
        Checks.paragraph(divided, "aabb");
        Checks.due("the hyphen is one", divided.at(0, 2), '-');
        Checks.refused("behind the hyphen", IndexOutOfBoundsException.class, () -> divided.at(0, 3));
        Checks.refused("behind the hyphen", IndexOutOfBoundsException.class, () -> divided.x(0, 3));
    }

    /** A character in front of a line's first or behind its last is not one of the lines beside it. */
    private static void notTheNeighbour() {
        Checks.sentence("Character i of line k. IndexOutOfBoundsException: there is none");
        GalleySetter s = style(40, 6, 3, 2);
        Checks.paragraph(s, "abcd efgh ij");
        Checks.refused("behind the first line", IndexOutOfBoundsException.class, () -> s.at(0, 4));
        Checks.refused("in front of the second", IndexOutOfBoundsException.class, () -> s.at(1, -1));
        Checks.refused("behind the first line", IndexOutOfBoundsException.class, () -> s.x(0, 4));
        Checks.refused("in front of the second", IndexOutOfBoundsException.class, () -> s.x(1, -1));
        Checks.refused("behind a shorter line", IndexOutOfBoundsException.class, () -> s.at(2, 2));
        Checks.refused("behind a shorter line", IndexOutOfBoundsException.class, () -> s.x(2, 3));
        Checks.refused("line -1", IndexOutOfBoundsException.class, () -> s.at(-1, 4));
        Checks.refused("line 3", IndexOutOfBoundsException.class, () -> s.at(3, -4));
    }
}
