/** The edges of badness, class and of what line may be, a sentence of the document at a time. */
public final class EdgeBadnessTest {
    private static final String NO_WAY = "IllegalStateException";

    public static void main(String[] args) {
        endOfTheText();
        noExcess();
        stretchOfAllSpaces();
        shrinkOfAllSpaces();
        cut();
        classesOfStretch();
        classesOfShrink();
        nothingToGive();
        tolerance();
        leastAndMostTolerance();
        moreThanTheShrink();
        moreThanTheStretch();
        cubesBeyondInt();
        badnessAndClass();
        Checks.end();
    }

    /** The measure is 300, a space 10, the letter a 10 and the letter m 60. */
    private static GalleySetter style(int stretch, int shrink, int tolerance) {
        GalleySetter s = new GalleySetter();
        s.set(0, 300);
        s.set(1, 10);
        s.set(2, stretch);
        s.set(3, shrink);
        s.set(7, tolerance);
        s.width('m', 60);
        return s;
    }

    /** Types a line with the excess e and g spaces, of which none can be the end of a shorter one. */
    private static void typeLine(GalleySetter s, int e, int g) {
        Checks.typed(s, "a ".repeat(g));
        int rest = 300 - 20 * g - e;
        for (; rest > 60; rest -= 60) {
            s.type('m');
        }
        s.width('r', rest);
        s.type('r');
    }

    private static String badness(GalleySetter s) {
        return Checks.outcome(() -> {
            s.paragraph();
            return s.badness(0);
        });
    }

    /** What badness() answers for such a line when another one is behind it. */
    private static void first(int e, int g, int stretch, int shrink, int tolerance, String due) {
        GalleySetter s = style(stretch, shrink, tolerance);
        typeLine(s, e, g);
        Checks.typed(s, " mmmmm");
        Checks.due("first line, e " + e + ", g " + g + ", STRETCH " + stretch + ", SHRINK " + shrink
                + ", TOLERANCE " + tolerance, badness(s), due);
    }

    /** What badness() answers for such a line when it ends the text. */
    private static void only(int e, int g, int stretch, int shrink, int tolerance, String due) {
        GalleySetter s = style(stretch, shrink, tolerance);
        typeLine(s, e, g);
        Checks.due("only line, e " + e + ", g " + g + ", STRETCH " + stretch + ", SHRINK " + shrink
                + ", TOLERANCE " + tolerance, badness(s), due);
    }

    private static void endOfTheText() {
        Checks.sentence("If the line ends the text and e is not below 0");
        only(0, 0, 0, 0, 0, "10000");
        only(0, 1, 0, 0, 0, "10000");
        only(1, 0, 0, 0, 0, "10000");
        only(1, 1, 0, 0, 0, "10000");
        only(1, 1, 1, 0, 9999, "10000");
        only(279, 1, 0, 0, 0, "10000");
        only(299, 0, 60, 60, 9999, "10000");
        only(-1, 0, 60, 60, 9999, NO_WAY);
        only(-1, 1, 60, 0, 9999, NO_WAY);
        only(-1, 1, 0, 1, 9999, "100");
        only(-1, 1, 0, 2, 9999, "10012");
    }

    private static void noExcess() {
        Checks.sentence("or if e is 0: its BADNESS is 0, its CLASS 1");
        first(0, 0, 0, 0, 0, "10000");
        first(0, 1, 0, 0, 0, "10000");
        first(0, 3, 60, 60, 9999, "10000");
        first(1, 0, 60, 60, 9999, NO_WAY);
        first(1, 1, 1, 0, 9999, "20100");
        first(-1, 0, 60, 60, 9999, NO_WAY);
        first(-1, 1, 0, 1, 9999, "100");
    }

    private static void stretchOfAllSpaces() {
        Checks.sentence("Else if e is above 0: let s be g * STRETCH");
        first(30, 1, 30, 0, 9999, "20100");
        first(30, 2, 15, 60, 9999, "20100");
        first(30, 3, 10, 7, 9999, "20100");
        first(30, 5, 6, 0, 9999, "20100");
        first(30, 1, 15, 60, 9999, "30800");
        first(30, 2, 30, 60, 9999, "10012");
    }

    private static void shrinkOfAllSpaces() {
        Checks.sentence("Else let s be g * SHRINK: the badness likewise of -e");
        first(-30, 1, 0, 30, 9999, "100");
        first(-30, 2, 60, 15, 9999, "100");
        first(-30, 3, 7, 10, 9999, "100");
        first(-30, 5, 0, 6, 9999, "100");
        first(-30, 2, 60, 30, 9999, "10012");
        only(-30, 1, 60, 30, 9999, "100");
        only(-30, 1, 15, 60, 9999, "10012");
    }

    private static void cut() {
        Checks.sentence("it is 100 * e^3 / s^3 (cut)");
        first(1, 1, 5, 0, 9999, "10000");
        first(1, 1, 4, 0, 9999, "10001");
        first(1, 1, 3, 0, 9999, "10003");
        first(2, 1, 3, 0, 9999, "20029");
        first(4, 1, 3, 0, 9999, "30237");
        first(5, 1, 3, 0, 9999, "30462");
        first(12, 1, 60, 0, 9999, "10000");
        first(13, 1, 60, 0, 9999, "10001");
        first(-1, 1, 0, 5, 9999, "10000");
        first(-1, 1, 0, 4, 9999, "10001");
        first(-1, 1, 0, 3, 9999, "10003");
        first(-2, 1, 0, 3, 9999, "29");
    }

    private static void classesOfStretch() {
        Checks.sentence("the class is 1 if 2 * e is not more than s, 2 if e is not, else 3");
        first(30, 1, 60, 0, 9999, "10012");
        first(31, 1, 60, 0, 9999, "20013");
        first(60, 1, 60, 0, 9999, "20100");
        first(61, 1, 60, 0, 9999, "30105");
        first(29, 1, 59, 0, 9999, "10011");
        first(30, 1, 59, 0, 9999, "20013");
        first(59, 1, 59, 0, 9999, "20100");
        first(60, 1, 59, 0, 9999, "30105");
        first(30, 2, 30, 0, 9999, "10012");
        first(31, 2, 30, 0, 9999, "20013");
        first(61, 2, 30, 0, 9999, "30105");
    }

    private static void classesOfShrink() {
        Checks.sentence("the class is 1 if 2 * -e is not more than s, else 0");
        first(-30, 1, 0, 60, 9999, "10012");
        first(-31, 1, 0, 60, 9999, "13");
        first(-60, 1, 0, 60, 9999, "100");
        first(-29, 1, 0, 59, 9999, "10011");
        first(-30, 1, 0, 59, 9999, "13");
        first(-30, 2, 0, 30, 9999, "10012");
        first(-31, 2, 0, 30, 9999, "13");
        only(-30, 1, 0, 60, 9999, "10012");
        only(-31, 1, 0, 60, 9999, "13");
        only(-60, 1, 0, 60, 9999, "100");
    }

    private static void nothingToGive() {
        Checks.sentence("A line may not BE if s is 0 there");
        first(1, 0, 60, 60, 9999, NO_WAY);
        first(-1, 0, 60, 60, 9999, NO_WAY);
        first(1, 1, 0, 60, 9999, NO_WAY);
        first(-1, 1, 60, 0, 9999, NO_WAY);
        first(1, 5, 0, 0, 9999, NO_WAY);
        first(-1, 5, 0, 0, 9999, NO_WAY);
        first(1, 1, 1, 0, 9999, "20100");
        first(-1, 1, 0, 1, 9999, "100");
        only(-1, 0, 60, 60, 9999, NO_WAY);
        only(-1, 1, 60, 0, 9999, NO_WAY);
    }

    private static void tolerance() {
        Checks.sentence("or its badness is more than TOLERANCE");
        first(60, 1, 60, 0, 100, "20100");
        first(60, 1, 60, 0, 99, NO_WAY);
        first(61, 1, 60, 0, 105, "30105");
        first(61, 1, 60, 0, 104, NO_WAY);
        first(30, 1, 60, 0, 12, "10012");
        first(30, 1, 60, 0, 11, NO_WAY);
        first(-60, 1, 0, 60, 100, "100");
        first(-60, 1, 0, 60, 99, NO_WAY);
        first(-30, 1, 0, 60, 12, "10012");
        first(-30, 1, 0, 60, 11, NO_WAY);
        only(-60, 1, 0, 60, 100, "100");
        only(-60, 1, 0, 60, 99, NO_WAY);
    }

    private static void leastAndMostTolerance() {
        Checks.sentence("7 TOLERANCE 0 .. 9999");
        first(12, 1, 60, 0, 0, "10000");
        first(13, 1, 60, 0, 0, NO_WAY);
        first(-12, 1, 0, 60, 0, "10000");
        first(-13, 1, 0, 60, 0, NO_WAY);
        first(0, 1, 60, 60, 0, "10000");
        first(246, 1, 53, 0, 9999, "39999");
        first(246, 1, 53, 0, 9998, NO_WAY);
        first(247, 1, 53, 0, 9999, NO_WAY);
    }

    private static void moreThanTheShrink() {
        Checks.sentence("or -e is more than s");
        first(-60, 1, 0, 60, 9999, "100");
        first(-61, 1, 0, 60, 9999, NO_WAY);
        first(-2, 1, 60, 2, 9999, "100");
        first(-3, 1, 60, 2, 9999, NO_WAY);
        first(-4, 2, 60, 2, 9999, "100");
        first(-5, 2, 60, 2, 9999, NO_WAY);
        only(-60, 1, 60, 60, 9999, "100");
        only(-61, 1, 60, 60, 9999, NO_WAY);
    }

    private static void moreThanTheStretch() {
        Checks.sentence("2 if e is not, else 3");
        first(4, 1, 3, 0, 9999, "30237");
        first(13, 1, 3, 0, 9999, "38137");
        first(14, 1, 3, 0, 9999, NO_WAY);
    }

    private static void cubesBeyondInt() {
        Checks.sentence("100 * e^3 / s^3");
        GalleySetter s = style(60, 0, 9999);
        s.set(0, 600);
        s.set(1, 6);
        Checks.typed(s, "a a a a mmmmmmmmmm");
        Checks.due("542 of 180", badness(s), "32730");
        s = style(60, 0, 9999);
        s.set(0, 600);
        s.set(1, 0);
        s.width('a', 1);
        Checks.typed(s, "a ".repeat(35) + "mmmmmmmmmm");
        Checks.due("565 of 2040", badness(s), "10002");
        s = style(0, 60, 9999);
        s.set(0, 600);
        s.set(1, 0);
        s.width('a', 1);
        Checks.typed(s, "m".repeat(20) + " a".repeat(29));
        Checks.due("629 over, of 1740", badness(s), "10004");
        Checks.due("a line", s.lines(), 1);
    }

    private static void badnessAndClass() {
        Checks.sentence("The badness of line k, and 10000 times its class");
        first(-60, 1, 0, 60, 9999, "100");
        first(0, 1, 0, 0, 0, "10000");
        first(60, 1, 60, 0, 9999, "20100");
        first(246, 1, 53, 0, 9999, "39999");
    }
}
