/** Promises 6 and 7: set, width. */
public final class StyleTest {
    private static final int[] LEAST = {20, 0, 0, 0, 0, 0, 0, 0, 2};
    private static final int[] MOST = {600, 60, 60, 60, 1000, 99999, 99999, 9999, 30};

    public static void main(String[] args) {
        ranges();
        firstValues();
        toleranceAtFirst();
        refusedValueStays();
        widths();
        Checks.end();
    }

    private static void ranges() {
        GalleySetter s = new GalleySetter();
        for (int p = 0; p < 9; p++) {
            int parameter = p;
            s.set(p, LEAST[p]);
            s.set(p, MOST[p]);
            Checks.refused("below " + p, IllegalArgumentException.class, () -> s.set(parameter, LEAST[parameter] - 1));
            Checks.refused("above " + p, IllegalArgumentException.class, () -> s.set(parameter, MOST[parameter] + 1));
            Checks.refused("far below", IllegalArgumentException.class, () -> s.set(parameter, Integer.MIN_VALUE));
            Checks.refused("far above", IllegalArgumentException.class, () -> s.set(parameter, Integer.MAX_VALUE));
        }
        for (int p : new int[] {-1, 9, 10, 100, Integer.MIN_VALUE, Integer.MAX_VALUE}) {
            Checks.refused("parameter " + p, IllegalArgumentException.class, () -> s.set(p, 20));
        }
    }

    private static void firstValues() {
        GalleySetter s = new GalleySetter();
        Checks.paragraph(s, "aaaaaaaaaaaa aaaaaaaaaaaa");
        Checks.due("MEASURE 120", Checks.galley(s), "aaaaaaaaaaaa|aaaaaaaaaaaa");
        s.clear();
        Checks.paragraph(s, "a a");
        Checks.due("SPACE 6", Checks.places(s, 0), "0 10 16");
        s.clear();
        firstDemerits();
    }

    private static void firstDemerits() {
        GalleySetter s = new GalleySetter();
        s.set(0, 40);
        Checks.pattern(s, "1a");
        // The first line ends at a point: 100 + 50 * 50, and 100 for the last.
        Checks.paragraph(s, "bbbaa");
        Checks.due("lines", Checks.galley(s), "bbb-|aa");
        Checks.due("HYPHEN 50", s.demerits(), 100 + 2500 + 100);
        s.clear();
        Checks.paragraph(s, "bbbabbabb");
        Checks.due("lines", Checks.galley(s), "bbb-|abb-|abb");
        Checks.due("DOUBLE 3000", s.demerits(), 100 + 2500 + 100 + 2500 + 3000 + 100);
        stretchAndTolerance();
    }

    private static void stretchAndTolerance() {
        GalleySetter s = new GalleySetter();
        s.set(0, 100);
        s.width('b', 1);
        // 9 letters and a space of 6 leave 4 for a stretch of 3: 100 * 64 / 27 is 237, more than 200.
        Checks.typed(s, "aaaa aaaaa aaaaaaaaaa");
        Checks.refused("TOLERANCE 200", IllegalStateException.class, s::paragraph);
        s.set(7, 237);
        Checks.due("TOLERANCE 237", s.paragraph(), 2);
        Checks.due("STRETCH 3, class 3", s.badness(0), 30237);
        Checks.due("APART 3000", s.demerits(), 247 * 247 + 3000 + 100 + 3000);
        s.clear();
        // 9 letters, a b and a space leave 3: badness 100, class 2.
        s.set(7, 200);
        Checks.due("lines", Checks.paragraph(s, "aaaa aaaaab aaaaaaaaaa"), 2);
        Checks.due("badness 100", s.badness(0), 20100);
        s.clear();
        s.width('d', 8);
        // 9 letters of 10, one of 8, a space of 6: 104 is 4 over, a shrink of 2 is too little.
        Checks.typed(s, "aaaa aaaaad aaaaaaaaaa");
        Checks.refused("SHRINK 2", IllegalStateException.class, s::paragraph);
        s.width('d', 6);
        Checks.due("2 over", s.paragraph(), 2);
        Checks.due("badness 100, class 0", s.badness(0), 100);
    }

    private static void toleranceAtFirst() {
        GalleySetter s = new GalleySetter();
        s.set(0, 89);
        s.set(2, 50);
        s.width('b', 60);
        s.width('c', 29);
        // 26 of 89 leave 63 of 50: badness 200; a last line as wide as the measure follows.
        Checks.due("badness 200", Checks.paragraph(s, "a a bc"), 2);
        Checks.due("its badness", s.badness(0), 30200);
        s.set(0, 50);
        s.set(2, 19);
        s.width('b', 21);
        // 26 of 50 leave 24 of 19: badness 201.
        Checks.typed(s, "a a bc");
        Checks.refused("badness 201", IllegalStateException.class, s::paragraph);
        s.set(7, 201);
        Checks.due("lines", s.paragraph(), 2);
        Checks.due("its badness", s.badness(2), 30201);
        s.set(0, 27);
        s.set(2, 1);
        s.width('b', 17);
        Checks.due("1 of 1", Checks.paragraph(s, "a a ba"), 2);
        Checks.due("its badness", s.badness(4), 20100);
    }

    private static void refusedValueStays() {
        GalleySetter s = new GalleySetter();
        s.set(0, 50);
        Checks.refused("601", IllegalArgumentException.class, () -> s.set(0, 601));
        Checks.refused("19", IllegalArgumentException.class, () -> s.set(0, 19));
        Checks.paragraph(s, "aaaaa aaaaa");
        Checks.due("MEASURE stays 50", Checks.galley(s), "aaaaa|aaaaa");
        s.clear();
        s.width('a', 7);
        Checks.refused("0", IllegalArgumentException.class, () -> s.width('a', 0));
        Checks.refused("61", IllegalArgumentException.class, () -> s.width('a', 61));
        Checks.paragraph(s, "aaa");
        Checks.due("the width stays 7", Checks.places(s, 0), "0 7 14");
    }

    private static void widths() {
        for (int c = 0; c <= 0xffff; c++) {
            GalleySetter s = new GalleySetter();
            char named = (char) c;
            if (named >= 'a' && named <= 'z' || named == '-') {
                s.width(named, 1);
                s.width(named, 60);
                for (int w : new int[] {0, 61, -1, Integer.MIN_VALUE, Integer.MAX_VALUE}) {
                    Checks.refused("width " + w, IllegalArgumentException.class, () -> s.width(named, w));
                }
            } else {
                Checks.refused("width of " + c, IllegalArgumentException.class, () -> s.width(named, 10));
            }
        }
        eachLetterHasItsOwn();
    }

    private static void eachLetterHasItsOwn() {
        GalleySetter s = new GalleySetter();
        s.set(0, 600);
        for (char c = 'a'; c <= 'z'; c++) {
            s.width(c, 1 + c - 'a');
        }
        Checks.paragraph(s, "abcdefghijklm nopqrstuvwxyz");
        int due = 0;
        for (int i = 0; i < 27; i++) {
            Checks.due("place " + i, s.x(0, i), due);
            due += i < 13 ? 1 + i : i == 13 ? 6 : i;
        }
        s.clear();
        s.set(0, 43);
        s.width('a', 10);
        s.width('-', 13);
        Checks.pattern(s, "1aaa");
        Checks.paragraph(s, "aaaaaaa");
        Checks.due("the hyphen's width", Checks.galley(s), "aaa-|aaaa");
        Checks.due("its place", Checks.places(s, 0), "0 10 20 30");
    }
}
