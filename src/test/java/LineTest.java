/** Promises 11 to 14: size, at, x, badness. */
public final class LineTest {
    public static void main(String[] args) {
        noSuchLine();
        dividedLine();
        stretchedLine();
        shrunkLine();
        lastLines();
        asItWasSet();
        Checks.end();
    }

    private static void noSuchLine() {
        GalleySetter s = new GalleySetter();
        s.set(0, 40);
        Checks.paragraph(s, "aaaa ab");
        for (int k : new int[] {-1, 2, 60, Integer.MIN_VALUE, Integer.MAX_VALUE}) {
            Checks.refused("size", IndexOutOfBoundsException.class, () -> s.size(k));
            Checks.refused("at", IndexOutOfBoundsException.class, () -> s.at(k, 0));
            Checks.refused("x", IndexOutOfBoundsException.class, () -> s.x(k, 0));
            Checks.refused("badness", IndexOutOfBoundsException.class, () -> s.badness(k));
        }
        for (int i : new int[] {-1, 2, 4, 80, Integer.MIN_VALUE, Integer.MAX_VALUE}) {
            Checks.refused("at", IndexOutOfBoundsException.class, () -> s.at(1, i));
            Checks.refused("x", IndexOutOfBoundsException.class, () -> s.x(1, i));
        }
        Checks.due("the last character", s.at(1, 1), 'b');
        Checks.due("its place", s.x(1, 1), 10);
        Checks.due("size", s.size(0), 4);
        Checks.due("size", s.size(1), 2);
    }

    private static void dividedLine() {
        GalleySetter s = new GalleySetter();
        s.set(0, 100);
        s.set(2, 30);
        s.width('b', 4);
        s.width('-', 3);
        Checks.pattern(s, "1c");
        // 8 + 6 + 30 + 6 + 20 + 3 is 73, so that 27 are left for two spaces: 13 and 14.
        Checks.paragraph(s, "bb aaa aacddddddd");
        Checks.due("lines", Checks.galley(s), "bb aaa aa-|cddddddd");
        Checks.due("size with the hyphen", s.size(0), 10);
        Checks.due("the hyphen", s.at(0, 9), '-');
        Checks.due("a space", s.at(0, 2), ' ');
        Checks.due("places", Checks.places(s, 0), "0 4 8 27 37 47 57 77 87 97");
        Checks.due("places of the last line", Checks.places(s, 1), "0 10 20 30 40 50 60 70");
        Checks.due("badness", s.badness(0), 10009);
        Checks.due("demerits", s.demerits(), 19 * 19 + 2500 + 100);
    }

    private static void stretchedLine() {
        GalleySetter s = new GalleySetter();
        s.set(0, 68);
        s.set(2, 5);
        // 10 are left for three spaces: 3, 6 and 10 in front of what is behind them.
        Checks.paragraph(s, "a a a a aaaaaa");
        Checks.due("lines", Checks.galley(s), "a a a a|aaaaaa");
        Checks.due("places", Checks.places(s, 0), "0 10 19 29 38 48 58");
        Checks.due("badness of 10 of 15, class 2", s.badness(0), 20029);
        Checks.due("badness of a last line", s.badness(1), 10000);
    }

    private static void shrunkLine() {
        GalleySetter s = new GalleySetter();
        s.set(0, 95);
        s.set(3, 10);
        // 7 over for two spaces: 3 (cut towards 0) and 7, also in a line that ends its text.
        Checks.paragraph(s, "aaa aaa aaa");
        Checks.due("places", Checks.places(s, 0), "0 10 20 30 33 43 53 63 65 75 85");
        Checks.due("badness of 7 of 20", s.badness(0), 10004);
        s.set(3, 5);
        Checks.paragraph(s, "aaa aaa aaa aaaaaaaaa");
        Checks.refused("line 3", IndexOutOfBoundsException.class, () -> s.size(3));
        Checks.due("places, not at the end", Checks.places(s, 1), "0 10 20 30 33 43 53 63 65 75 85");
        Checks.due("badness of 7 of 10, class 0", s.badness(1), 34);
    }

    private static void lastLines() {
        GalleySetter s = new GalleySetter();
        Checks.paragraph(s, "a bb c");
        Checks.due("a last line stays as it is", Checks.places(s, 0), "0 10 16 26 36 42");
        Checks.due("badness", s.badness(0), 10000);
        s.set(0, 52);
        Checks.paragraph(s, "a bb c");
        Checks.due("just as wide as the measure", Checks.places(s, 1), "0 10 16 26 36 42");
        Checks.due("badness", s.badness(1), 10000);
        s.set(0, 51);
        Checks.paragraph(s, "a bb c");
        Checks.due("one over", Checks.places(s, 2), "0 10 16 26 36 41");
        Checks.due("badness of 1 of 4", s.badness(2), 10001);
        s.set(2, 0);
        s.set(0, 600);
        Checks.paragraph(s, "a b");
        Checks.due("no stretch is asked of it", s.badness(3), 10000);
    }

    private static void asItWasSet() {
        GalleySetter s = new GalleySetter();
        s.set(0, 68);
        s.set(2, 5);
        Checks.paragraph(s, "a a a a aaaaaa");
        for (int p = 0; p < 8; p++) {
            s.set(p, 60);
        }
        s.width('a', 60);
        Checks.paragraph(s, "a");
        Checks.due("places", Checks.places(s, 0), "0 10 19 29 38 48 58");
        Checks.due("places", Checks.places(s, 1), "0 10 20 30 40 50");
        Checks.due("badness", s.badness(0), 20029);
        Checks.due("the next line", Checks.line(s, 2), "a");
    }
}
