import java.util.ArrayList;
import java.util.List;

/** The edges of the galley and its pages and of promises 8, 15 and 16, a sentence at a time. */
public final class EdgeGalleyTest {
    /** A word of 18 lines: aa- and each b- are as wide as the measure, and so is bb. */
    private static final String WORD = "aa" + "b".repeat(18);

    public static void main(String[] args) {
        atMostSixty();
        sixtyOfOneParagraph();
        wouldHaveMoreThanSixty();
        refusedForOtherReasonsToo();
        nothingIsTypedThen();
        heightLinesOrAllThatAreLeft();
        leastAndMostHeight();
        firstLineOfAParagraph();
        lastLineOfAParagraph();
        oneLineLessAndSoOn();
        wouldComeToHaveNone();
        everySmallGalley();
        heightThatIsNow();
        longParagraph();
        cleared();
        clearedWhenFull();
        whatStays();
        Checks.end();
    }

    private static void atMostSixty() {
        Checks.sentence("THE GALLEY has the lines of all paragraphs that were set, in order, at most 60");
        GalleySetter s = Checks.filled(10, 20, 39);
        Checks.due("59 lines", s.lines(), 59);
        Checks.due("one more", Checks.typed(s, "a").paragraph(), 1);
        Checks.due("60 lines", s.lines(), 60);
        Checks.due("the last one", Checks.line(s, 59), "a");
        Checks.typed(s, "a");
        Checks.refused("line 61", UnsupportedOperationException.class, s::paragraph);
        Checks.due("two more behind 58", Checks.typed(Checks.filled(10, 20, 38), "a a").paragraph(), 2);
        Checks.due("40 behind 20", Checks.filled(10, 20, 40).lines(), 60);
        GalleySetter order = Checks.filled(10, 2);
        order.width('b', 20);
        Checks.typed(order, "b a").paragraph();
        Checks.due("in order", Checks.galley(order), "a|a|b|a");
    }

    private static GalleySetter divided() {
        GalleySetter s = new GalleySetter();
        s.set(0, 20);
        s.width('a', 5);
        Checks.pattern(s, "1b");
        return s;
    }

    private static void sixtyOfOneParagraph() {
        Checks.sentence("at most 60");
        String three = WORD + " " + WORD + " " + WORD + " ";
        GalleySetter s = Checks.typed(divided(), three + "aabbbbbb");
        Checks.due("60 lines of one paragraph", s.paragraph(), 60);
        Checks.due("lines", s.lines(), 60);
        Checks.due("the first", Checks.line(s, 0), "aa-");
        Checks.due("the last", Checks.line(s, 59), "bb");
        Checks.refused("none behind it", IndexOutOfBoundsException.class, () -> s.size(60));
        Checks.refusedAndStays("61 lines of one paragraph", UnsupportedOperationException.class,
                () -> Checks.typed(divided(), three + "aabbbbbbb"), GalleySetter::paragraph);
        Checks.refusedAndStays("69 lines of one paragraph", UnsupportedOperationException.class,
                () -> Checks.typed(divided(), three + "aabbbbbbbbbbbbbbb"), GalleySetter::paragraph);
    }

    private static void wouldHaveMoreThanSixty() {
        Checks.sentence("UnsupportedOperationException: the galley would have more than 60 lines. "
                + "(What is typed stays then.)");
        Checks.refusedAndStays("one behind 60", UnsupportedOperationException.class,
                () -> Checks.typed(Checks.filled(10, 20, 40), "a"), GalleySetter::paragraph);
        Checks.refusedAndStays("two behind 59", UnsupportedOperationException.class,
                () -> Checks.typed(Checks.filled(10, 20, 39), "a a"), GalleySetter::paragraph);
        Checks.refusedAndStays("40 behind 21", UnsupportedOperationException.class,
                () -> Checks.typed(Checks.filled(10, 21), "a ".repeat(40)), GalleySetter::paragraph);
        GalleySetter s = Checks.typed(Checks.filled(10, 20, 40), " a  a ");
        Checks.refused("two behind 60", UnsupportedOperationException.class, s::paragraph);
        Checks.due("demerits stay", s.demerits(), 4000);
        s.clear();
        Checks.due("what is typed stays", s.paragraph(), 2);
    }

    /** Several exceptions fit: the one that is named first is thrown. */
    private static void refusedForOtherReasonsToo() {
        Checks.sentence("IllegalArgumentException: ...; IllegalStateException: ...; "
                + "UnsupportedOperationException: ...");
        Checks.refusedAndStays("no text, when it is full", IllegalArgumentException.class,
                () -> Checks.typed(Checks.filled(10, 20, 40), "a."), GalleySetter::paragraph);
        Checks.refusedAndStays("nothing typed, when it is full", IllegalArgumentException.class,
                () -> Checks.filled(10, 20, 40), GalleySetter::paragraph);
        Checks.refusedAndStays("no way, when it is full", IllegalStateException.class,
                () -> Checks.typed(Checks.filled(10, 20, 40), "aa"), GalleySetter::paragraph);
    }

    private static void nothingIsTypedThen() {
        Checks.sentence("how many lines. Nothing is typed then");
        GalleySetter s = Checks.filled(10);
        Checks.due("one line", Checks.typed(s, "a").paragraph(), 1);
        Checks.due("type", s.type('a'), 1);
        Checks.due("the first again", s.paragraph(), 1);
        Checks.refused("nothing", IllegalArgumentException.class, s::paragraph);
        Checks.due("40 lines", Checks.typed(s, "a ".repeat(40)).paragraph(), 40);
        Checks.due("type", s.type('a'), 1);
    }

    private static void pages(String due, int height, int... paragraphs) {
        Checks.due("HEIGHT " + height, Checks.pages(Checks.filled(height, paragraphs)), due);
    }

    private static void heightLinesOrAllThatAreLeft() {
        Checks.sentence("a page has the next HEIGHT lines, or all that are left");
        pages("0", 2, 1);
        pages("0 0", 2, 1, 1);
        pages("0 0 1", 2, 1, 1, 1);
        pages("0 0 1 1", 2, 1, 1, 1, 1);
        pages("0 0 0", 3, 1, 1, 1);
        pages("0 0 0 1", 3, 1, 1, 1, 1);
        pages("0 0", 2, 2);
        pages("0 0 0", 3, 3);
        pages("0 0 0", 3, 1, 2);
        pages("0 0 0 0", 5, 4);
    }

    private static void leastAndMostHeight() {
        Checks.sentence("8 HEIGHT 2 .. 30 (10)");
        GalleySetter s = new GalleySetter();
        for (int i = 0; i < 60; i++) {
            Checks.typed(s, "a").paragraph();
        }
        int[] pagesOf = {0, 0, 0, 0, 0, 0, 0, 0, 0, 0, 1, 1};
        for (int k = 0; k < pagesOf.length; k++) {
            Checks.due("HEIGHT at first, line " + k, s.page(k), pagesOf[k]);
        }
        Checks.due("HEIGHT at first, the last", s.page(59), 5);
        s.set(8, 30);
        Checks.due("HEIGHT 30, line 29", s.page(29), 0);
        Checks.due("HEIGHT 30, line 30", s.page(30), 1);
        Checks.due("HEIGHT 30, the last", s.page(59), 1);
        s.set(8, 2);
        for (int k = 0; k < 60; k++) {
            Checks.due("HEIGHT 2, line " + k, s.page(k), k / 2);
        }
    }

    private static void firstLineOfAParagraph() {
        Checks.sentence("the page's last line is the first one of a paragraph with two lines or more");
        pages("0 0 0 1", 3, 1, 1, 1, 1);
        pages("0 0 1 1", 3, 1, 1, 2);
        pages("0 0 1 1 1", 3, 1, 1, 3);
        pages("0 0 1 1 1 2 2", 3, 1, 1, 5);
        pages("0 0 0 1 1", 3, 1, 4);
        pages("0 0 0 0 1 1", 5, 2, 2, 2);
    }

    private static void lastLineOfAParagraph() {
        Checks.sentence("or the line behind it is the last one of such a paragraph");
        pages("0 0 0 1", 3, 3, 1);
        pages("0 0 1 1", 3, 4);
        pages("0 0 0 1 1", 3, 5);
        pages("0 0 1 1 1", 3, 4, 1);
        pages("0 0 0 1 1", 4, 5);
        pages("0 0 0 1", 3, 2, 1, 1);
    }

    private static void oneLineLessAndSoOn() {
        Checks.sentence("the page has one line less; and so on, as long as that holds");
        pages("0 1 1 1", 3, 1, 3);
        pages("0 0 1 1 1", 4, 2, 3);
        pages("0 0 0 1 1 1 1", 5, 3, 3, 1);
        pages("0 1 1 2", 2, 1, 3);
        pages("0 1 1", 2, 1, 2);
        pages("0 0 1 1 1", 3, 2, 2, 1);
    }

    private static void wouldComeToHaveNone() {
        Checks.sentence("but if it would come to have none, it has HEIGHT lines");
        pages("0 0 1", 2, 3);
        pages("0 0 1 1", 2, 3, 1);
        pages("0 0 1 2 2 3", 2, 3, 3);
        pages("0 0 1 1 2 2 3", 2, 1, 1, 2, 3);
        pages("0 0 1 1", 2, 4);
        pages("0 0 1 2 2", 2, 5);
        pages("0 1 1 2", 2, 1, 3);
    }

    /** All rows of paragraphs with up to eight lines, against the reference. */
    private static void everySmallGalley() {
        Checks.sentence("PAGES are filled with them");
        for (int height = 2; height <= 7; height++) {
            for (int ends = 0; ends < 1 << 8; ends++) {
                oneSmallGalley(height, ends | 1 << 8);
            }
        }
    }

    /** A bit for each line that ends its paragraph; the highest one is the first that is left out. */
    private static void oneSmallGalley(int height, int ends) {
        List<Integer> paragraphs = new ArrayList<>();
        int lines = 0;
        for (int bits = ends; bits > 1; bits >>= 1) {
            lines++;
            if ((bits & 1) == 1) {
                paragraphs.add(lines);
                lines = 0;
            }
        }
        GalleySetter s = Checks.filled(height, paragraphs.stream().mapToInt(n -> n).toArray());
        Reference r = new Reference();
        r.set(0, 20);
        r.set(8, height);
        r.width('a', 20);
        for (int count : paragraphs) {
            "a ".repeat(count).chars().forEach(c -> r.type((char) c));
            r.paragraph();
        }
        StringBuilder due = new StringBuilder();
        for (int k = 0; k < r.lines(); k++) {
            due.append(k == 0 ? "" : " ").append(r.page(k));
        }
        Checks.due("HEIGHT " + height + ", paragraphs " + paragraphs, Checks.pages(s), due.toString());
    }

    private static void heightThatIsNow() {
        Checks.sentence("The page (from 0) of line k, by the HEIGHT that is now");
        GalleySetter s = Checks.filled(2, 1, 1, 1, 1, 1);
        Checks.due("2", Checks.pages(s), "0 0 1 1 2");
        s.set(8, 4);
        Checks.due("4", Checks.pages(s), "0 0 0 0 1");
        Checks.refused("1", IllegalArgumentException.class, () -> s.set(8, 1));
        Checks.refused("31", IllegalArgumentException.class, () -> s.set(8, 31));
        Checks.due("4 yet", Checks.pages(s), "0 0 0 0 1");
        Checks.typed(s, "a a").paragraph();
        Checks.due("with lines behind", Checks.pages(s), "0 0 0 0 1 1 1");
        s.set(8, 6);
        Checks.due("other lines behind, another page", Checks.pages(s), "0 0 0 0 0 1 1");
    }

    private static void longParagraph() {
        Checks.sentence("PAGES are filled with them");
        GalleySetter s = Checks.typed(divided(), WORD + " " + WORD + " " + WORD + " aabbbbbb");
        s.paragraph();
        int[] heights = {2, 3, 29, 30, 20};
        int[] last = {29, 19, 2, 1, 2};
        int[] lastButTwo = {28, 19, 1, 1, 2};
        for (int i = 0; i < heights.length; i++) {
            s.set(8, heights[i]);
            Checks.due("HEIGHT " + heights[i] + ", line 59", s.page(59), last[i]);
            Checks.due("HEIGHT " + heights[i] + ", line 58", s.page(58), last[i]);
            Checks.due("HEIGHT " + heights[i] + ", line 57", s.page(57), lastButTwo[i]);
        }
    }

    private static void cleared() {
        Checks.sentence("The galley is empty");
        GalleySetter s = new GalleySetter();
        s.clear();
        Checks.due("an empty one", s.lines(), 0);
        GalleySetter other = Checks.filled(2, 3);
        other.clear();
        Checks.due("lines", other.lines(), 0);
        for (int k = 0; k < 3; k++) {
            int line = k;
            Checks.refused("size", IndexOutOfBoundsException.class, () -> other.size(line));
            Checks.refused("at", IndexOutOfBoundsException.class, () -> other.at(line, 0));
            Checks.refused("x", IndexOutOfBoundsException.class, () -> other.x(line, 0));
            Checks.refused("badness", IndexOutOfBoundsException.class, () -> other.badness(line));
            Checks.refused("page", IndexOutOfBoundsException.class, () -> other.page(line));
        }
        other.clear();
        Checks.due("twice", other.lines(), 0);
        Checks.typed(other, "a a").paragraph();
        Checks.due("lines anew", Checks.galley(other), "a|a");
        Checks.due("pages anew", Checks.pages(other), "0 0");
    }

    private static void clearedWhenFull() {
        Checks.sentence("The galley is empty");
        GalleySetter s = Checks.filled(10, 20, 40);
        s.clear();
        Checks.due("40 lines", Checks.typed(s, "a ".repeat(40)).paragraph(), 40);
        Checks.due("20 lines", Checks.typed(s, "a ".repeat(20)).paragraph(), 20);
        Checks.due("60 again", s.lines(), 60);
        Checks.typed(s, "a");
        Checks.refused("and no more", UnsupportedOperationException.class, s::paragraph);
    }

    private static void whatStays() {
        Checks.sentence("(patterns, parameters and widths stay)");
        GalleySetter s = new GalleySetter();
        Checks.pattern(s, "1bb");
        Checks.pattern(s, "1cc");
        int[] parameters = {35, 7, 4, 3, 11, 13, 17, 150, 2};
        for (int i = 0; i < parameters.length; i++) {
            s.set(i, parameters[i]);
        }
        s.width('-', 15);
        s.width('c', 9);
        Checks.paragraph(s, "aabbcc");
        s.clear();
        Checks.due("demerits of the latest stay", s.demerits(), 300 + 2 * 121 + 13);
        Checks.due("lines", Checks.paragraph(s, "aabbcc"), 3);
        Checks.due("by the patterns, the measure and the hyphen", Checks.galley(s), "aa-|bb-|cc");
        Checks.due("by the width", Checks.places(s, 2), "0 9");
        Checks.due("by HYPHEN and DOUBLE", s.demerits(), 300 + 2 * 121 + 13);
        Checks.due("by HEIGHT", Checks.pages(s), "0 0 1");
        s.clear();
        Checks.paragraph(s, "a c");
        Checks.due("by SPACE", Checks.places(s, 0), "0 10 17");
        Checks.due("how many patterns", Checks.pattern(s, "1dd"), 3);
    }
}
