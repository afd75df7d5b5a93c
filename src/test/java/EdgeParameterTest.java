/**
 * The ranges of parameters and widths and the edges of promises 6 and 7, a sentence of the document at
 * a time. A value can't be read, so each is told by how a text is set that only that value sets so.
 */
public final class EdgeParameterTest {
    private static final String[] NAMES = {"MEASURE", "SPACE", "STRETCH", "SHRINK", "HYPHEN", "DOUBLE", "APART",
        "TOLERANCE", "HEIGHT"};
    private static final int[] LEAST = {20, 0, 0, 0, 0, 0, 0, 0, 2};
    private static final int[] MOST = {600, 60, 60, 60, 1000, 99999, 99999, 9999, 30};
    private static final int[] AT_FIRST = {120, 6, 3, 2, 50, 3000, 3000, 200, 10};

    public static void main(String[] args) {
        for (int parameter = 0; parameter < 9; parameter++) {
            range(parameter);
        }
        noSuchParameter();
        refusedParameters();
        parametersStay();
        widthsAtFirst();
        leastAndMostWidth();
        hyphenWidth();
        refusedWidths();
        refusedCharacters();
        Checks.end();
    }

    private static void range(int parameter) {
        int least = LEAST[parameter];
        int most = MOST[parameter];
        String name = NAMES[parameter];
        Checks.sentence(parameter + " " + name + " " + least + " .. " + most + " (" + AT_FIRST[parameter] + ")");
        Checks.holds("at first", is(new GalleySetter(), parameter, AT_FIRST[parameter]));
        for (int v : new int[] {least, most}) {
            GalleySetter s = new GalleySetter();
            Checks.due("set " + v, Checks.outcome(() -> {
                s.set(parameter, v);
                return "done";
            }), "done");
            Checks.holds("it is " + v, is(s, parameter, v));
        }
        for (int v : new int[] {least - 1, most + 1, -most, Integer.MIN_VALUE, Integer.MAX_VALUE}) {
            if (v < least || v > most) {
                refusedValue(parameter, least, v);
                refusedValue(parameter, most, v);
            }
        }
    }

    private static void refusedValue(int parameter, int before, int v) {
        GalleySetter s = new GalleySetter();
        s.set(parameter, before);
        Checks.refused("set " + v, IllegalArgumentException.class, () -> s.set(parameter, v));
        Checks.holds("it is " + before + " yet, behind " + v, is(s, parameter, before));
    }

    private static boolean is(GalleySetter s, int parameter, int v) {
        return switch (parameter) {
            case 0 -> isMeasure(s, v);
            case 1 -> isSpace(s, v);
            case 2 -> isStretch(s, v);
            case 3 -> isShrink(s, v);
            case 4 -> isHyphen(s, v);
            case 5 -> isDouble(s, v);
            case 6 -> isApart(s, v);
            case 7 -> isTolerance(s, v);
            default -> isHeight(s, v);
        };
    }

    /** A first line without spaces must be just as wide as the measure. */
    private static boolean isMeasure(GalleySetter s, int v) {
        s.width('m', v / 10);
        return Checks.outcome(() -> Checks.paragraph(s, "mmmmmmmmmm mmmmmmmmmm")).equals("2");
    }

    private static boolean isSpace(GalleySetter s, int v) {
        Checks.paragraph(s, "a a");
        return s.x(0, 1) == 10 && s.x(0, 2) == 10 + v;
    }

    /** What badness() answers for a first line of two letters that lacks so much of the measure. */
    private static String lacking(GalleySetter s, int lack) {
        s.set(0, 100);
        s.width('s', (94 - lack) / 2);
        s.width('t', 94 - lack - (94 - lack) / 2);
        return Checks.outcome(() -> {
            Checks.paragraph(s, "s t mmmmmmmmmm");
            return s.badness(0);
        });
    }

    private static boolean isStretch(GalleySetter s, int v) {
        return v == 0 ? lacking(s, 1).equals("IllegalStateException") : lacking(s, v).equals("20100");
    }

    private static boolean isShrink(GalleySetter s, int v) {
        if (v == 0) {
            return lacking(s, -1).equals("IllegalStateException");
        }
        s.set(0, 100);
        s.width('s', (94 + v) / 4);
        s.width('t', (94 + v) / 2 - (94 + v) / 4);
        Checks.paragraph(s, "st st mmmmmmmmmm");
        return s.badness(0) == 100;
    }

    private static boolean isHyphen(GalleySetter s, int v) {
        s.set(0, 30);
        Checks.pattern(s, "1bb");
        Checks.paragraph(s, "aabb");
        return s.demerits() == 100 + (long) v * v + 100;
    }

    private static boolean isDouble(GalleySetter s, int v) {
        s.set(0, 30);
        Checks.pattern(s, "1bb");
        Checks.pattern(s, "1cc");
        Checks.paragraph(s, "aabbcc");
        return s.demerits() == 300 + 2 * 2500 + v;
    }

    /** The first line is apart from what is in front of it, and the last one from it. */
    private static boolean isApart(GalleySetter s, int v) {
        s.set(2, 10);
        return lacking(s, 11).equals("30133") && s.demerits() == 143 * 143 + v + 100 + v;
    }

    private static boolean isTolerance(GalleySetter s, int v) {
        if (v == 200) {
            return stretched(s, 63, 50).equals("30200") && stretched(s, 24, 19).equals("IllegalStateException");
        }
        if (v == 0) {
            return stretched(s, 1, 5).equals("10000") && stretched(s, 1, 4).equals("IllegalStateException");
        }
        return stretched(s, 246, 53).equals("39999") && badnessTenThousand(s).equals("IllegalStateException");
    }

    private static String stretched(GalleySetter s, int lack, int stretch) {
        s.clear();
        s.set(2, stretch);
        if (lack < 90) {
            return lacking(s, lack);
        }
        s.set(0, 300);
        s.width('m', 60);
        s.width('s', 300 - lack - 6 - 10);
        return Checks.outcome(() -> {
            Checks.paragraph(s, "s a mmmmm");
            return s.badness(0);
        });
    }

    /** 557 of 120. */
    private static String badnessTenThousand(GalleySetter s) {
        s.clear();
        s.set(0, 600);
        s.set(2, 60);
        s.width('m', 60);
        s.width('s', 11);
        return Checks.outcome(() -> Checks.paragraph(s, "a a s mmmmmmmmmm"));
    }

    private static boolean isHeight(GalleySetter s, int v) {
        for (int i = 0; i <= v; i++) {
            Checks.typed(s, "a").paragraph();
        }
        return s.page(v - 1) == 0 && s.page(v) == 1;
    }

    private static void noSuchParameter() {
        Checks.sentence("there is no such parameter");
        for (int parameter : new int[] {-1, 9, 256, 1 << 16, Integer.MIN_VALUE, Integer.MAX_VALUE}) {
            Checks.refusedAndStays("set " + parameter, IllegalArgumentException.class,
                    EdgeParameterTest::inUse, s -> s.set(parameter, 30));
        }
    }

    private static GalleySetter inUse() {
        GalleySetter s = new GalleySetter();
        s.set(0, 100);
        s.width('c', 20);
        Checks.pattern(s, "b1b");
        Checks.paragraph(s, "ab cd");
        return Checks.typed(s, "abbcd e");
    }

    private static void refusedParameters() {
        Checks.sentence("or v is out of its range");
        for (int parameter = 0; parameter < 9; parameter++) {
            int named = parameter;
            Checks.refusedAndStays("set too small", IllegalArgumentException.class,
                    EdgeParameterTest::inUse, s -> s.set(named, LEAST[named] - 1));
            Checks.refusedAndStays("set too large", IllegalArgumentException.class,
                    EdgeParameterTest::inUse, s -> s.set(named, MOST[named] + 1));
        }
    }

    private static void parametersStay() {
        Checks.sentence("The galley is empty (patterns, parameters and widths stay)");
        for (int parameter = 0; parameter < 9; parameter++) {
            for (int v : new int[] {LEAST[parameter], MOST[parameter]}) {
                GalleySetter s = new GalleySetter();
                s.set(parameter, v);
                Checks.paragraph(s, "a");
                s.clear();
                Checks.holds(NAMES[parameter] + " is " + v + " behind clear", is(s, parameter, v));
            }
        }
    }

    private static int widthOf(GalleySetter s, char c) {
        s.clear();
        Checks.paragraph(s, "" + c + c);
        return s.x(0, 1) - s.x(0, 0);
    }

    private static void widthsAtFirst() {
        Checks.sentence("Each letter and the hyphen - have a WIDTH 1 .. 60 (at first 10)");
        GalleySetter s = new GalleySetter();
        for (char c = 'a'; c <= 'z'; c++) {
            Checks.due("width of " + c, widthOf(s, c), 10);
        }
        Checks.holds("the hyphen's", hyphenIs(new GalleySetter(), 10));
    }

    private static void leastAndMostWidth() {
        Checks.sentence("The width of a letter, or of -, is w");
        for (char c = 'a'; c <= 'z'; c++) {
            GalleySetter s = new GalleySetter();
            s.width(c, 1);
            Checks.due("the least of " + c, widthOf(s, c), 1);
            s.width(c, 60);
            Checks.due("the most of " + c, widthOf(s, c), 60);
            Checks.due("the next one's", widthOf(s, c == 'z' ? 'a' : (char) (c + 1)), 10);
            Checks.due("the one's before", widthOf(s, c == 'a' ? 'z' : (char) (c - 1)), 10);
        }
    }

    /** The first of two lines, with a hyphen and without spaces, must be just as wide as the measure. */
    private static boolean hyphenIs(GalleySetter s, int w) {
        s.set(0, 60 + w);
        s.width('a', 30);
        s.width('b', w == 60 ? 60 : 30);
        Checks.pattern(s, "1bb");
        return Checks.outcome(() -> Checks.paragraph(s, "aabb")).equals("2");
    }

    private static void hyphenWidth() {
        Checks.sentence("The width of a letter, or of -, is w");
        for (int w : new int[] {1, 60}) {
            GalleySetter s = new GalleySetter();
            s.width('-', w);
            Checks.holds("the hyphen's is " + w, hyphenIs(s, w));
        }
        GalleySetter s = new GalleySetter();
        s.width('-', 60);
        Checks.due("a letter's stays", widthOf(s, 'z'), 10);
        Checks.due("a letter's stays", widthOf(s, 'a'), 10);
    }

    private static void refusedWidths() {
        Checks.sentence("or w is not 1 .. 60");
        for (int w : new int[] {0, 61, -1, -60, 256 + 10, Integer.MIN_VALUE, Integer.MAX_VALUE}) {
            for (char c : new char[] {'a', 'm', 'z'}) {
                GalleySetter s = new GalleySetter();
                s.width(c, 7);
                Checks.refused("width " + w, IllegalArgumentException.class, () -> s.width(c, w));
                Checks.due("it is 7 yet", widthOf(s, c), 7);
            }
            GalleySetter s = new GalleySetter();
            Checks.refused("width " + w, IllegalArgumentException.class, () -> s.width('-', w));
            Checks.holds("the hyphen's is 10 yet", hyphenIs(s, 10));
        }
    }

    private static void refusedCharacters() {
        Checks.sentence("IllegalArgumentException: c is neither");
        for (char c : " .09`{AZ,/_\u00ad\u0161\u0000\uffff".toCharArray()) {
            for (int w : new int[] {0, 1, 60, 61}) {
                Checks.refusedAndStays("width of " + (int) c, IllegalArgumentException.class,
                        EdgeParameterTest::inUse, s -> s.width(c, w));
            }
        }
    }
}
