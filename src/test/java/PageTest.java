/** Promises 15 and 16: page, clear. */
public final class PageTest {
    public static void main(String[] args) {
        noSuchLine();
        paragraphsOfOneLine();
        firstLineAlone();
        lastLineAlone();
        comesToNone();
        manyLess();
        heightThatIsNow();
        pagesMove();
        cleared();
        Checks.end();
    }

    private static void noSuchLine() {
        GalleySetter s = Checks.filled(2, 3);
        for (int k : new int[] {-1, 3, 60, Integer.MIN_VALUE, Integer.MAX_VALUE}) {
            Checks.refused("page", IndexOutOfBoundsException.class, () -> s.page(k));
        }
        Checks.refused("page of none", IndexOutOfBoundsException.class, () -> new GalleySetter().page(0));
    }

    private static void paragraphsOfOneLine() {
        Checks.due("one line never stands alone", Checks.pages(Checks.filled(2, 1, 1, 1, 1, 1)), "0 0 1 1 2");
        Checks.due("all that are left", Checks.pages(Checks.filled(5, 1, 1, 1, 1, 1)), "0 0 0 0 0");
        Checks.due("one more", Checks.pages(Checks.filled(4, 1, 1, 1, 1, 1)), "0 0 0 0 1");
        Checks.due("HEIGHT 10 at first", Checks.pages(Checks.filled(10, 6, 6)), "0 0 0 0 0 0 0 0 0 0 1 1");
        GalleySetter s = new GalleySetter();
        for (int i = 0; i < 11; i++) {
            Checks.paragraph(s, "a");
        }
        Checks.due("HEIGHT of a new object", Checks.pages(s), "0 0 0 0 0 0 0 0 0 0 1");
    }

    private static void firstLineAlone() {
        Checks.due("the first at the foot", Checks.pages(Checks.filled(3, 2, 3)), "0 0 1 1 1");
        Checks.due("two at the foot", Checks.pages(Checks.filled(3, 1, 4)), "0 0 0 1 1");
        Checks.due("the first when all fit", Checks.pages(Checks.filled(3, 2, 1)), "0 0 0");
        Checks.due("the first, then one alone", Checks.pages(Checks.filled(3, 2, 1, 1)), "0 0 0 1");
    }

    private static void lastLineAlone() {
        Checks.due("the last at the head", Checks.pages(Checks.filled(4, 5)), "0 0 0 1 1");
        Checks.due("the last and one more", Checks.pages(Checks.filled(4, 5, 1)), "0 0 0 1 1 1");
        Checks.due("two at the head", Checks.pages(Checks.filled(4, 6)), "0 0 0 0 1 1");
        Checks.due("at the head of the third page", Checks.pages(Checks.filled(3, 4, 3)), "0 0 1 1 2 2 2");
    }

    private static void comesToNone() {
        Checks.due("three lines, two a page", Checks.pages(Checks.filled(2, 3)), "0 0 1");
        Checks.due("two of three lines", Checks.pages(Checks.filled(2, 3, 3)), "0 0 1 2 2 3");
        Checks.due("pairs, three a page", Checks.pages(Checks.filled(3, 2, 2, 2)), "0 0 1 1 2 2");
    }

    private static void manyLess() {
        // With one line less the last one of the second paragraph is not alone, but then its first is.
        Checks.due("two less", Checks.pages(Checks.filled(4, 2, 3)), "0 0 1 1 1");
        Checks.due("two less again", Checks.pages(Checks.filled(5, 3, 3, 1)), "0 0 0 1 1 1 1");
        Checks.due("back into the paragraph in front", Checks.pages(Checks.filled(3, 1, 3)), "0 1 1 1");
    }

    private static void heightThatIsNow() {
        GalleySetter s = Checks.filled(30, 5, 1, 4);
        Checks.due("30", Checks.pages(s), "0 0 0 0 0 0 0 0 0 0");
        s.set(8, 4);
        Checks.due("4", Checks.pages(s), "0 0 0 1 1 1 2 2 2 2");
        s.set(8, 2);
        Checks.due("2", Checks.pages(s), "0 0 1 2 2 3 4 4 5 5");
        Checks.refused("1", IllegalArgumentException.class, () -> s.set(8, 1));
        Checks.due("2 yet", s.page(9), 5);
    }

    private static void pagesMove() {
        GalleySetter s = Checks.filled(4, 3, 1);
        Checks.due("page", s.page(3), 0);
        Checks.paragraph(s, "a a");
        Checks.due("as before", Checks.pages(s), "0 0 0 0 1 1");
        s.clear();
        Checks.paragraph(s, "a a a a");
        Checks.due("alone", s.page(3), 0);
        Checks.paragraph(s, "a");
        Checks.due("with one behind", Checks.pages(s), "0 0 0 0 1");
    }

    private static void cleared() {
        GalleySetter s = Checks.filled(3, 2, 2);
        Checks.pattern(s, "1b");
        s.set(0, 60);
        Checks.typed(s, "aabbb");
        s.width('a', 25);
        s.clear();
        Checks.due("lines", s.lines(), 0);
        Checks.refused("line 0", IndexOutOfBoundsException.class, () -> s.size(0));
        Checks.refused("character 0", IndexOutOfBoundsException.class, () -> s.at(0, 0));
        Checks.refused("place 0", IndexOutOfBoundsException.class, () -> s.x(0, 0));
        Checks.refused("badness 0", IndexOutOfBoundsException.class, () -> s.badness(0));
        Checks.refused("page 0", IndexOutOfBoundsException.class, () -> s.page(0));
        Checks.due("demerits of the latest paragraph stay", s.demerits(), 200);
        Checks.due("what is typed, patterns, parameters and widths stay", s.paragraph(), 2);
        Checks.due("lines", Checks.galley(s), "aa-|bbb");
        Checks.due("places", Checks.places(s, 0), "0 25 50");
        s.clear();
        s.clear();
        Checks.due("twice", s.lines(), 0);
    }
}
