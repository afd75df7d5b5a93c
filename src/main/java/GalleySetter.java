import java.util.ArrayList;
import java.util.Arrays;

/**
 * Sets paragraphs: patterns tell where words may be divided, of all ways to break a text into lines
 * the one with the least demerits is found, its lines are justified to whole places, and pages are
 * filled without lines that stand alone.
 */
public final class GalleySetter {
    private static final int TYPED_LIMIT = 80;
    private static final int PATTERN_LIMIT = 30;
    private static final int PATTERN_LETTERS = 8;
    private static final int WORD_LIMIT = 20;
    // At most one break at each character, and the two ends.
    private static final int BREAK_LIMIT = TYPED_LIMIT + 2;
    private static final int GALLEY_LIMIT = 60;

    private static final int MEASURE = 0;
    private static final int SPACE = 1;
    private static final int STRETCH = 2;
    private static final int SHRINK = 3;
    private static final int HYPHEN = 4;
    private static final int DOUBLE = 5;
    private static final int APART = 6;
    private static final int TOLERANCE = 7;
    private static final int HEIGHT = 8;

    private static final int[] LEAST = {20, 0, 0, 0, 0, 0, 0, 0, 2};
    private static final int[] MOST = {600, 60, 60, 60, 1000, 99999, 99999, 9999, 30};
    private static final int[] AT_FIRST = {120, 6, 3, 2, 50, 3000, 3000, 200, 10};

    private static final int ALPHABET = 26;
    private static final int LEAST_WIDTH = 1;
    private static final int MOST_WIDTH = 60;
    private static final int WIDTH_AT_FIRST = 10;

    private static final int TIGHT = 0;
    private static final int EVEN = 1;
    private static final int LOOSE = 2;
    private static final int WIDE = 3;
    private static final int KINDS = 4;
    private static final int KIND_WEIGHT = 10000;

    private final char[] typed = new char[TYPED_LIMIT];
    private int typedCount;
    private final Divider divider = new Divider();
    private final Style style = new Style();
    private final Text text = new Text();
    private final Ways ways = new Ways();
    private final Galley galley = new Galley();
    private long latestDemerits;

    public GalleySetter() {
        typedCount = 0;
        latestDemerits = 0;
    }

    public int type(char c) throws IllegalArgumentException, IllegalStateException {
        if (!isLetter(c) && !isDigit(c) && c != '.' && c != ' ') {
            throw new IllegalArgumentException("no letter, digit, dot or space");
        }
        if (typedCount >= TYPED_LIMIT) {
            throw new IllegalStateException("no room for one more character");
        }
        typed[typedCount] = c;
        typedCount++;
        return typedCount;
    }

    public void wipe() {
        typedCount = 0;
    }

    public int pattern() throws IllegalArgumentException, IllegalStateException {
        Pattern read = Pattern.read(typed, typedCount);
        if (read == null) {
            throw new IllegalArgumentException("what is typed is no pattern");
        }
        if (!divider.put(read)) {
            throw new IllegalStateException("no room for one more pattern");
        }
        typedCount = 0;
        return divider.count();
    }

    public int points() throws IllegalArgumentException {
        if (!isWord(typed, typedCount)) {
            throw new IllegalArgumentException("what is typed is no word");
        }
        return divider.divide(typed, 0, typedCount);
    }

    public void set(int parameter, int v) throws IllegalArgumentException {
        if (!style.change(parameter, v)) {
            throw new IllegalArgumentException("no such parameter, or out of its range");
        }
    }

    public void width(char c, int w) throws IllegalArgumentException {
        if (!style.changeWidth(c, w)) {
            throw new IllegalArgumentException("no letter or hyphen, or no width");
        }
    }

    public int paragraph()
            throws IllegalArgumentException, IllegalStateException, UnsupportedOperationException {
        if (!text.read(typed, typedCount)) {
            throw new IllegalArgumentException("what is typed is no text with a word");
        }
        text.prepare(divider, style);
        if (!ways.find(text, style)) {
            throw new IllegalStateException("there is no way to set the text");
        }
        if (galley.count() + ways.lineCount > GALLEY_LIMIT) {
            throw new UnsupportedOperationException("the galley has no room for the paragraph");
        }
        galley.append(text, style, ways);
        latestDemerits = ways.least;
        typedCount = 0;
        return ways.lineCount;
    }

    public long demerits() {
        return latestDemerits;
    }

    public int lines() {
        return galley.count();
    }

    public int size(int k) throws IndexOutOfBoundsException {
        if (!galley.has(k)) {
            throw new IndexOutOfBoundsException("there is no such line");
        }
        return galley.line(k).characters.length;
    }

    public char at(int k, int i) throws IndexOutOfBoundsException {
        if (!galley.has(k, i)) {
            throw new IndexOutOfBoundsException("there is no such character");
        }
        return galley.line(k).characters[i];
    }

    public int x(int k, int i) throws IndexOutOfBoundsException {
        if (!galley.has(k, i)) {
            throw new IndexOutOfBoundsException("there is no such character");
        }
        return galley.line(k).places[i];
    }

    public int badness(int k) throws IndexOutOfBoundsException {
        if (!galley.has(k)) {
            throw new IndexOutOfBoundsException("there is no such line");
        }
        return galley.line(k).mark;
    }

    public int page(int k) throws IndexOutOfBoundsException {
        if (!galley.has(k)) {
            throw new IndexOutOfBoundsException("there is no such line");
        }
        return galley.pageOf(k, style.values[HEIGHT]);
    }

    public void clear() {
        galley.empty();
    }

    private static boolean isLetter(char c) {
        return c >= 'a' && c <= 'z';
    }

    private static boolean isDigit(char c) {
        return c >= '0' && c <= '9';
    }

    private static boolean isWord(char[] row, int count) {
        if (count < 1 || count > WORD_LIMIT) {
            return false;
        }
        for (int i = 0; i < count; i++) {
            if (!isLetter(row[i])) {
                return false;
            }
        }
        return true;
    }

    /** Letters (dots among them) and the digit of each place in front of, between and behind them. */
    private static final class Pattern {
        final char[] letters = new char[PATTERN_LETTERS + 2];
        final int[] digits = new int[PATTERN_LETTERS + 3];
        int length;

        /** The pattern that the row's first characters are, or null if they are none. */
        static Pattern read(char[] row, int count) {
            boolean dotInFront = count > 0 && row[0] == '.';
            boolean dotBehind = count > 1 && row[count - 1] == '.';
            Pattern made = new Pattern();
            if (dotInFront) {
                made.add('.');
            }
            if (!made.readInside(row, dotInFront ? 1 : 0, dotBehind ? count - 1 : count)) {
                return null;
            }
            if (dotBehind) {
                made.add('.');
            }
            return made;
        }

        private boolean readInside(char[] row, int from, int to) {
            int found = 0;
            boolean behindDigit = false;
            for (int i = from; i < to; i++) {
                char c = row[i];
                if (isLetter(c) && found < PATTERN_LETTERS) {
                    add(c);
                    found++;
                    behindDigit = false;
                } else if (isDigit(c) && !behindDigit) {
                    digits[length] = c - '0';
                    behindDigit = true;
                } else {
                    return false;
                }
            }
            return found > 0;
        }

        private void add(char c) {
            letters[length] = c;
            length++;
        }

        boolean hasLettersOf(Pattern other) {
            return length == other.length && standsAt(other.letters, 0);
        }

        /** Whether the letters stand in the row from there; the row must reach that far. */
        boolean standsAt(char[] row, int from) {
            for (int i = 0; i < length; i++) {
                if (row[from + i] != letters[i]) {
                    return false;
                }
            }
            return true;
        }
    }

    /** Keeps the patterns and finds the points of words. */
    private static final class Divider {
        private final ArrayList<Pattern> patterns = new ArrayList<>();
        private final char[] dotted = new char[WORD_LIMIT + 2];
        private final int[] greatest = new int[WORD_LIMIT + 3];

        int count() {
            return patterns.size();
        }

        /** Whether there was room for the pattern. */
        boolean put(Pattern added) {
            for (int i = 0; i < patterns.size(); i++) {
                if (patterns.get(i).hasLettersOf(added)) {
                    patterns.set(i, added);
                    return true;
                }
            }
            if (patterns.size() >= PATTERN_LIMIT) {
                return false;
            }
            patterns.add(added);
            return true;
        }

        /** The points of the word that stands in the row, bit i for one in front of its letter i. */
        int divide(char[] row, int from, int letters) {
            dotted[0] = '.';
            System.arraycopy(row, from, dotted, 1, letters);
            dotted[letters + 1] = '.';
            Arrays.fill(greatest, 0);
            for (int i = 0; i < patterns.size(); i++) {
                applyEverywhere(patterns.get(i), letters + 2);
            }
            int bits = 0;
            for (int i = 2; i <= letters - 2; i++) {
                // The dot in front moves the letter's place by one.
                if (greatest[i + 1] % 2 == 1) {
                    bits |= 1 << i;
                }
            }
            return bits;
        }

        private void applyEverywhere(Pattern pattern, int dottedLength) {
            for (int start = 0; start + pattern.length <= dottedLength; start++) {
                if (pattern.standsAt(dotted, start)) {
                    raise(pattern, start);
                }
            }
        }

        private void raise(Pattern pattern, int start) {
            for (int i = 0; i <= pattern.length; i++) {
                greatest[start + i] = Math.max(greatest[start + i], pattern.digits[i]);
            }
        }
    }

    /** The parameters and the widths. */
    private static final class Style {
        final int[] values = AT_FIRST.clone();
        private final int[] widths = new int[ALPHABET + 1];

        Style() {
            Arrays.fill(widths, WIDTH_AT_FIRST);
        }

        boolean change(int parameter, int v) {
            if (parameter < 0 || parameter >= values.length) {
                return false;
            }
            if (v < LEAST[parameter] || v > MOST[parameter]) {
                return false;
            }
            values[parameter] = v;
            return true;
        }

        boolean changeWidth(char c, int w) {
            if (!isLetter(c) && c != '-') {
                return false;
            }
            if (w < LEAST_WIDTH || w > MOST_WIDTH) {
                return false;
            }
            widths[widthIndex(c)] = w;
            return true;
        }

        int widthOf(char c) {
            return c == ' ' ? values[SPACE] : widths[widthIndex(c)];
        }

        private static int widthIndex(char c) {
            return isLetter(c) ? c - 'a' : ALPHABET;
        }
    }

    /** A text with its breaks, in rows that each paragraph uses again. */
    private static final class Text {
        final char[] characters = new char[TYPED_LIMIT];
        private int length;
        private final int[] widthBefore = new int[TYPED_LIMIT + 1];
        private final int[] gapsBefore = new int[TYPED_LIMIT + 1];
        int breakCount;
        final int[] lineEnd = new int[BREAK_LIMIT];
        final int[] lineStart = new int[BREAK_LIMIT];
        final boolean[] isPoint = new boolean[BREAK_LIMIT];

        /** Takes the row's words with one space between them; whether it is a text with a word. */
        boolean read(char[] row, int count) {
            length = 0;
            int wordLength = 0;
            for (int i = 0; i < count; i++) {
                char c = row[i];
                if (c == ' ') {
                    wordLength = 0;
                } else if (isLetter(c) && wordLength < WORD_LIMIT) {
                    if (wordLength == 0 && length > 0) {
                        add(' ');
                    }
                    add(c);
                    wordLength++;
                } else {
                    return false;
                }
            }
            return length > 0;
        }

        private void add(char c) {
            characters[length] = c;
            length++;
        }

        void prepare(Divider divider, Style style) {
            addUp(style);
            breakCount = 0;
            addBreak(0, 0, false);
            int wordStart = 0;
            for (int i = 0; i <= length; i++) {
                if (i == length || characters[i] == ' ') {
                    addPoints(divider, wordStart, i - wordStart);
                    addBreak(i, Math.min(i + 1, length), false);
                    wordStart = i + 1;
                }
            }
        }

        private void addUp(Style style) {
            widthBefore[0] = 0;
            gapsBefore[0] = 0;
            for (int i = 0; i < length; i++) {
                widthBefore[i + 1] = widthBefore[i] + style.widthOf(characters[i]);
                gapsBefore[i + 1] = gapsBefore[i] + (characters[i] == ' ' ? 1 : 0);
            }
        }

        private void addPoints(Divider divider, int wordStart, int letters) {
            int bits = divider.divide(characters, wordStart, letters);
            for (int i = 0; i < letters; i++) {
                if ((bits >> i & 1) == 1) {
                    addBreak(wordStart + i, wordStart + i, true);
                }
            }
        }

        private void addBreak(int end, int start, boolean point) {
            lineEnd[breakCount] = end;
            lineStart[breakCount] = start;
            isPoint[breakCount] = point;
            breakCount++;
        }

        int widthBetween(int from, int to) {
            return widthBefore[lineEnd[to]] - widthBefore[lineStart[from]];
        }

        int gapsBetween(int from, int to) {
            return gapsBefore[lineEnd[to]] - gapsBefore[lineStart[from]];
        }

        boolean isEnd(int place) {
            return place == breakCount - 1;
        }
    }

    /** How one line from a break to a later one fits the measure. */
    private static final class Fit {
        // More than any tolerance.
        private static final long ENDLESS = 1000000;

        int gaps;
        int excess;
        long badness;
        int kind;
        boolean mayBe;
        /** What is shared out among the gaps. */
        int spread;

        void look(Text text, Style style, int from, int to) {
            int hyphen = text.isPoint[to] ? style.widthOf('-') : 0;
            gaps = text.gapsBetween(from, to);
            excess = style.values[MEASURE] - text.widthBetween(from, to) - hyphen;
            boolean restStaysWhite = text.isEnd(to) && excess > 0;
            spread = restStaysWhite ? 0 : excess;
            if (excess == 0 || restStaysWhite) {
                badness = 0;
                kind = EVEN;
                mayBe = true;
            } else if (excess > 0) {
                stretch(gaps * style.values[STRETCH], style.values[TOLERANCE]);
            } else {
                shrink(gaps * style.values[SHRINK], style.values[TOLERANCE]);
            }
        }

        private void stretch(int give, int tolerance) {
            badness = badnessOf(excess, give);
            kind = 2 * excess <= give ? EVEN : excess <= give ? LOOSE : WIDE;
            mayBe = badness <= tolerance;
        }

        private void shrink(int give, int tolerance) {
            int over = -excess;
            badness = badnessOf(over, give);
            kind = 2 * over <= give ? EVEN : TIGHT;
            mayBe = badness <= tolerance && over <= give;
        }

        private static long badnessOf(long off, long give) {
            return give <= 0 ? ENDLESS : 100 * off * off * off / (give * give * give);
        }

        /** The line's demerits but for those that hang on the class of the line before. */
        long ownDemerits(Text text, Style style, int from, int to) {
            long sum = (10 + badness) * (10 + badness);
            if (text.isPoint[to]) {
                long hyphen = style.values[HYPHEN];
                sum += hyphen * hyphen;
                if (text.isPoint[from]) {
                    sum += style.values[DOUBLE];
                }
            }
            return sum;
        }
    }

    /**
     * Finds the way with the least demerits. A state is a break and the class of the line that ends
     * there: what comes behind hangs on nothing else of the lines in front.
     */
    private static final class Ways {
        private static final int STATES = BREAK_LIMIT * KINDS;
        private static final long NOT_REACHED = -1;

        final Fit fit = new Fit();
        private final long[] sums = new long[STATES];
        private final int[] stateBefore = new int[STATES];
        /** The breaks of the way that was found, from the last to the first. */
        private final int[] backwards = new int[BREAK_LIMIT + 1];
        int lineCount;
        long least;

        /** Whether there is a way. */
        boolean find(Text text, Style style) {
            Arrays.fill(sums, NOT_REACHED);
            sums[EVEN] = 0;
            stateBefore[EVEN] = EVEN;
            int end = text.breakCount - 1;
            for (int from = 0; from < end; from++) {
                // All lines to this break begin earlier, so its states stand by now.
                if (bestState(from) >= 0) {
                    tryLinesFrom(text, style, from);
                }
            }
            int last = bestState(end);
            if (last < 0) {
                return false;
            }
            least = sums[last];
            trace(last);
            return true;
        }

        private void tryLinesFrom(Text text, Style style, int from) {
            for (int to = from + 1; to < text.breakCount; to++) {
                fit.look(text, style, from, to);
                if (fit.mayBe) {
                    takeLine(text, style, from, to);
                }
            }
        }

        private void takeLine(Text text, Style style, int from, int to) {
            long own = fit.ownDemerits(text, style, from, to);
            for (int kind = 0; kind < KINDS; kind++) {
                int before = from * KINDS + kind;
                if (sums[before] != NOT_REACHED) {
                    boolean apart = Math.abs(kind - fit.kind) > 1;
                    long sum = sums[before] + own + (apart ? style.values[APART] : 0);
                    offer(to * KINDS + fit.kind, before, sum);
                }
            }
        }

        private void offer(int state, int before, long sum) {
            boolean better = sums[state] == NOT_REACHED || sum < sums[state]
                    || sum == sums[state] && beginsEarlier(before, stateBefore[state]);
            if (better) {
                sums[state] = sum;
                stateBefore[state] = before;
            }
        }

        /**
         * Whether, of two lines from these states to the same end, the first is to be taken of two ways
         * with the same sum. If both begin at one break, the lines in front of them decide; these are of
         * two classes, and so begin at two breaks.
         */
        private boolean beginsEarlier(int state, int other) {
            if (state / KINDS != other / KINDS) {
                return state / KINDS < other / KINDS;
            }
            return stateBefore[state] / KINDS < stateBefore[other] / KINDS;
        }

        /** The state of the break in which the best way to it ends, or -1 if there is no way. */
        private int bestState(int place) {
            int best = -1;
            for (int kind = 0; kind < KINDS; kind++) {
                int state = place * KINDS + kind;
                if (sums[state] != NOT_REACHED && (best < 0 || isBetter(state, best))) {
                    best = state;
                }
            }
            return best;
        }

        private boolean isBetter(int state, int other) {
            if (sums[state] != sums[other]) {
                return sums[state] < sums[other];
            }
            return beginsEarlier(state, other);
        }

        private void trace(int last) {
            int state = last;
            lineCount = 0;
            backwards[0] = state / KINDS;
            while (state >= KINDS && lineCount < BREAK_LIMIT) {
                state = stateBefore[state];
                lineCount++;
                backwards[lineCount] = state / KINDS;
            }
        }

        int breakBefore(int line) {
            return backwards[lineCount - line];
        }

        int breakBehind(int line) {
            return backwards[lineCount - line - 1];
        }
    }

    /** A line as it was set. */
    private static final class Line {
        final char[] characters;
        final int[] places;
        final int mark;
        /** The first, or the last, of several lines: such a one may not stand alone on a page. */
        final boolean opens;
        final boolean closes;

        Line(int count, int mark, boolean opens, boolean closes) {
            this.characters = new char[count];
            this.places = new int[count];
            this.mark = mark;
            this.opens = opens;
            this.closes = closes;
        }

        void fill(Text text, int start, Style style, Fit fit, boolean divided) {
            int letters = divided ? characters.length - 1 : characters.length;
            int x = 0;
            int gapsPassed = 0;
            for (int i = 0; i < characters.length; i++) {
                char c = i < letters ? text.characters[start + i] : '-';
                characters[i] = c;
                places[i] = x + (fit.gaps > 0 ? fit.spread * gapsPassed / fit.gaps : 0);
                x += style.widthOf(c);
                if (c == ' ') {
                    gapsPassed++;
                }
            }
        }
    }

    /** The lines of all paragraphs, and their pages. */
    private static final class Galley {
        private final ArrayList<Line> kept = new ArrayList<>();

        int count() {
            return kept.size();
        }

        boolean has(int k) {
            return k >= 0 && k < kept.size();
        }

        boolean has(int k, int i) {
            return has(k) && i >= 0 && i < kept.get(k).characters.length;
        }

        Line line(int k) {
            return kept.get(k);
        }

        void empty() {
            kept.clear();
        }

        void append(Text text, Style style, Ways ways) {
            for (int i = 0; i < ways.lineCount; i++) {
                kept.add(justify(text, style, ways, i));
            }
        }

        private static Line justify(Text text, Style style, Ways ways, int number) {
            int from = ways.breakBefore(number);
            int to = ways.breakBehind(number);
            Fit fit = ways.fit;
            fit.look(text, style, from, to);
            boolean divided = text.isPoint[to];
            int start = text.lineStart[from];
            int count = text.lineEnd[to] - start + (divided ? 1 : 0);
            int mark = (int) fit.badness + KIND_WEIGHT * fit.kind;
            boolean several = ways.lineCount > 1;
            boolean closes = several && number == ways.lineCount - 1;
            Line made = new Line(count, mark, several && number == 0, closes);
            made.fill(text, start, style, fit, divided);
            return made;
        }

        int pageOf(int k, int height) {
            int behind = 0;
            for (int page = 0; page < kept.size(); page++) {
                behind += pageLength(behind, height);
                if (k < behind) {
                    return page;
                }
            }
            return 0;
        }

        private int pageLength(int first, int height) {
            if (kept.size() - first <= height) {
                return kept.size() - first;
            }
            for (int length = height; length > 0; length--) {
                if (!leavesOneAlone(first + length)) {
                    return length;
                }
            }
            return height;
        }

        /** Whether a page that ends in front of that line leaves a line alone. */
        private boolean leavesOneAlone(int next) {
            return kept.get(next - 1).opens || kept.get(next).closes;
        }
    }
}
