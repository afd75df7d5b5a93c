import java.math.BigInteger;
import java.util.ArrayList;
import java.util.Arrays;
import java.util.List;

/**
 * A slow second writing of the document that shares nothing with the class: all ways to break a text
 * are written out and compared. Each call answers as a text, or the name of the exception.
 */
final class Reference {
    static final String ARGUMENT = "IllegalArgumentException";
    static final String STATE = "IllegalStateException";
    static final String UNSUPPORTED = "UnsupportedOperationException";
    static final String INDEX = "IndexOutOfBoundsException";
    /** Not the document's: there are more ways than can be written out. */
    static final String TOO_MANY = "too many ways";
    private static final int WAYS_LIMIT = 20000;
    private static final int[][] RANGES = {
        {20, 600}, {0, 60}, {0, 60}, {0, 60}, {0, 1000}, {0, 99999}, {0, 99999}, {0, 9999}, {2, 30},
    };

    private record Break(int end, int start, boolean point) {
    }

    private record Piece(String characters, int from, int to, int excess, int badness, int kind, boolean last) {
    }

    private record SetLine(String characters, List<Integer> places, int mark, int number, int of) {
    }

    private final StringBuilder typed = new StringBuilder();
    private final List<String> patternLetters = new ArrayList<>();
    private final List<String> patternTexts = new ArrayList<>();
    private final int[] p = {120, 6, 3, 2, 50, 3000, 3000, 200, 10};
    private final int[] widths = new int[128];
    private final List<SetLine> galley = new ArrayList<>();
    private long latest = 0;
    private List<Piece> best;
    private long bestSum;
    private int seen;

    Reference() {
        Arrays.fill(widths, 10);
    }

    String type(char c) {
        if ("abcdefghijklmnopqrstuvwxyz0123456789. ".indexOf(c) < 0) {
            return ARGUMENT;
        }
        if (typed.length() == 80) {
            return STATE;
        }
        typed.append(c);
        return "" + typed.length();
    }

    void wipe() {
        typed.setLength(0);
    }

    String pattern() {
        String text = typed.toString();
        if (!text.matches("\\.?([0-9]?[a-z]){1,8}[0-9]?\\.?")) {
            return ARGUMENT;
        }
        String letters = text.replaceAll("[0-9]", "");
        int old = patternLetters.indexOf(letters);
        if (old < 0 && patternLetters.size() == 30) {
            return STATE;
        }
        if (old >= 0) {
            patternLetters.remove(old);
            patternTexts.remove(old);
        }
        patternLetters.add(letters);
        patternTexts.add(text);
        wipe();
        return "" + patternLetters.size();
    }

    private boolean divides(String word, int i) {
        String dotted = "." + word + ".";
        int greatest = 0;
        for (int n = 0; n < patternLetters.size(); n++) {
            String letters = patternLetters.get(n);
            for (int at = dotted.indexOf(letters); at >= 0; at = dotted.indexOf(letters, at + 1)) {
                greatest = Math.max(greatest, digitInFront(patternTexts.get(n), i + 1 - at));
            }
        }
        return i >= 2 && i <= word.length() - 2 && greatest % 2 == 1;
    }

    /** The digit in front of the pattern's letter of that number, or behind the last one. */
    private static int digitInFront(String text, int number) {
        int passed = 0;
        for (char c : text.toCharArray()) {
            if (!Character.isDigit(c)) {
                passed++;
            } else if (passed == number) {
                return c - '0';
            }
        }
        return 0;
    }

    String points() {
        String word = typed.toString();
        if (!word.matches("[a-z]{1,20}")) {
            return ARGUMENT;
        }
        int bits = 0;
        for (int i = 0; i < word.length(); i++) {
            bits |= divides(word, i) ? 1 << i : 0;
        }
        return "" + bits;
    }

    String set(int parameter, int v) {
        if (parameter < 0 || parameter > 8 || v < RANGES[parameter][0] || v > RANGES[parameter][1]) {
            return ARGUMENT;
        }
        p[parameter] = v;
        return "done";
    }

    String width(char c, int w) {
        if ("abcdefghijklmnopqrstuvwxyz-".indexOf(c) < 0 || w < 1 || w > 60) {
            return ARGUMENT;
        }
        widths[c] = w;
        return "done";
    }

    String paragraph() {
        if (!typed.toString().matches(" *[a-z]{1,20}( +[a-z]{1,20})* *")) {
            return ARGUMENT;
        }
        String text = typed.toString().trim().replaceAll(" +", " ");
        best = null;
        seen = 0;
        walk(text, breaks(text), 0, new ArrayList<>());
        if (seen > WAYS_LIMIT) {
            return TOO_MANY;
        }
        if (best == null) {
            return STATE;
        }
        if (galley.size() + best.size() > 60) {
            return UNSUPPORTED;
        }
        for (int i = 0; i < best.size(); i++) {
            galley.add(justified(best.get(i), i, best.size()));
        }
        latest = bestSum;
        wipe();
        return "" + best.size();
    }

    private List<Break> breaks(String text) {
        List<Break> all = new ArrayList<>();
        all.add(new Break(0, 0, false));
        int at = 0;
        for (String word : text.split(" ")) {
            for (int i = 0; i < word.length(); i++) {
                if (divides(word, i)) {
                    all.add(new Break(at + i, at + i, true));
                }
            }
            at += word.length();
            all.add(new Break(at, at + 1, false));
            at++;
        }
        return all;
    }

    private void walk(String text, List<Break> breaks, int from, List<Piece> way) {
        if (seen > WAYS_LIMIT) {
            return;
        }
        seen++;
        if (from == breaks.size() - 1) {
            compare(way, breaks);
            return;
        }
        for (int to = from + 1; to < breaks.size(); to++) {
            Piece piece = piece(text, breaks, from, to);
            if (piece != null) {
                way.add(piece);
                walk(text, breaks, to, way);
                way.remove(way.size() - 1);
            }
        }
    }

    /** The line, or null if it may not be. */
    private Piece piece(String text, List<Break> breaks, int from, int to) {
        String characters = text.substring(breaks.get(from).start(), breaks.get(to).end())
                + (breaks.get(to).point() ? "-" : "");
        int e = p[0] - widthOf(characters);
        boolean last = to == breaks.size() - 1;
        if (e == 0 || last && e >= 0) {
            return new Piece(characters, from, to, e, 0, 1, last);
        }
        int s = spacesOf(characters) * (e > 0 ? p[2] : p[3]);
        if (s == 0 || -e > s) {
            return null;
        }
        BigInteger cube = BigInteger.valueOf(Math.abs(e)).pow(3);
        long badness = cube.multiply(BigInteger.valueOf(100)).divide(BigInteger.valueOf(s).pow(3)).longValueExact();
        if (badness > p[7]) {
            return null;
        }
        int kind = Math.abs(e) * 2 <= s ? 1 : e < 0 ? 0 : e <= s ? 2 : 3;
        return new Piece(characters, from, to, e, (int) badness, kind, last);
    }

    private static int spacesOf(String characters) {
        return characters.length() - characters.replace(" ", "").length();
    }

    private int widthOf(String characters) {
        int sum = 0;
        for (char c : characters.toCharArray()) {
            sum += c == ' ' ? p[1] : widths[c];
        }
        return sum;
    }

    private void compare(List<Piece> way, List<Break> breaks) {
        long sum = 0;
        int kind = 1;
        for (Piece piece : way) {
            sum += (10L + piece.badness()) * (10L + piece.badness());
            boolean divided = breaks.get(piece.to()).point();
            sum += divided ? (long) p[4] * p[4] : 0;
            sum += divided && breaks.get(piece.from()).point() ? p[5] : 0;
            sum += Math.abs(kind - piece.kind()) > 1 ? p[6] : 0;
            kind = piece.kind();
        }
        if (best == null || sum < bestSum || sum == bestSum && goesFirst(way, best)) {
            best = new ArrayList<>(way);
            bestSum = sum;
        }
    }

    private static boolean goesFirst(List<Piece> way, List<Piece> other) {
        for (int i = 1; i <= Math.min(way.size(), other.size()); i++) {
            int from = way.get(way.size() - i).from();
            int otherFrom = other.get(other.size() - i).from();
            if (from != otherFrom) {
                return from < otherFrom;
            }
        }
        return false;
    }

    private SetLine justified(Piece piece, int number, int of) {
        List<Integer> places = new ArrayList<>();
        String c = piece.characters();
        int g = spacesOf(c);
        for (int i = 0; i < c.length(); i++) {
            String front = c.substring(0, i);
            boolean shared = g > 0 && !(piece.last() && piece.excess() > 0);
            int more = shared ? (int) ((double) piece.excess() * spacesOf(front) / g) : 0;
            places.add(widthOf(front) + more);
        }
        return new SetLine(c, places, piece.badness() + 10000 * piece.kind(), number, of);
    }

    long demerits() {
        return latest;
    }

    int lines() {
        return galley.size();
    }

    private boolean has(int k) {
        return k >= 0 && k < galley.size();
    }

    private boolean has(int k, int i) {
        return has(k) && i >= 0 && i < galley.get(k).characters().length();
    }

    String size(int k) {
        return has(k) ? "" + galley.get(k).characters().length() : INDEX;
    }

    String at(int k, int i) {
        return has(k, i) ? "" + galley.get(k).characters().charAt(i) : INDEX;
    }

    String x(int k, int i) {
        return has(k, i) ? "" + galley.get(k).places().get(i) : INDEX;
    }

    String badness(int k) {
        return has(k) ? "" + galley.get(k).mark() : INDEX;
    }

    String page(int k) {
        return has(k) ? "" + pages().get(k) : INDEX;
    }

    private List<Integer> pages() {
        List<Integer> all = new ArrayList<>();
        for (int page = 0; all.size() < galley.size(); page++) {
            int left = galley.size() - all.size();
            int length = Math.min(p[8], left);
            while (length > 0 && length < left && alone(all.size() + length)) {
                length--;
            }
            for (int i = length == 0 ? p[8] : length; i > 0; i--) {
                all.add(page);
            }
        }
        return all;
    }

    private boolean alone(int next) {
        SetLine foot = galley.get(next - 1);
        SetLine head = galley.get(next);
        return foot.of() > 1 && foot.number() == 0 || head.of() > 1 && head.number() == head.of() - 1;
    }

    void clear() {
        galley.clear();
    }
}
