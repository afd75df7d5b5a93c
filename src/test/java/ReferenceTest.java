import java.util.ArrayList;
import java.util.List;

/**
 * Promises 4 to 16 against a slow second writing of the document: all ways to break a text are
 * written out and compared, and nothing is shared with the class.
 */
public final class ReferenceTest {
    private static final int RUNS = 1500;
    private static final int CALLS = 90;
    private static final int WAYS_LIMIT = 20000;

    /** Always the same numbers, so that a fault shows again. */
    private static final class Numbers {
        private long state;

        Numbers(long seed) {
            state = seed * 7919 + 17;
        }

        int below(int bound) {
            state = state * 6364136223846793005L + 1442695040888963407L;
            return (int) ((state >>> 33) % bound);
        }

        int among(int... values) {
            return values[below(values.length)];
        }

        boolean once(int in) {
            return below(in) == 0;
        }
    }

    private record Break(int end, int start, boolean point) {
    }

    private record Piece(String characters, int from, int to, int excess, int badness, int kind, boolean last) {
    }

    private record SetLine(String characters, List<Integer> places, int mark, int number, int of) {
    }

    private static final class Model {
        final List<String> patternLetters = new ArrayList<>();
        final List<String> patternTexts = new ArrayList<>();
        final int[] p = {120, 6, 3, 2, 50, 3000, 3000, 200, 10};
        final int[] widths = new int[128];
        final List<SetLine> galley = new ArrayList<>();
        long demerits = 0;
        List<Piece> best;
        long bestSum;
        int seen;

        Model() {
            java.util.Arrays.fill(widths, 10);
        }

        String pattern(String typed) {
            if (!typed.matches("\\.?([0-9]?[a-z]){1,8}[0-9]?\\.?")) {
                return "IllegalArgumentException";
            }
            String letters = typed.replaceAll("[0-9]", "");
            int old = patternLetters.indexOf(letters);
            if (old < 0 && patternLetters.size() == 30) {
                return "IllegalStateException";
            }
            if (old >= 0) {
                patternLetters.remove(old);
                patternTexts.remove(old);
            }
            patternLetters.add(letters);
            patternTexts.add(typed);
            return "" + patternLetters.size();
        }

        boolean divides(String word, int i) {
            String dotted = "." + word + ".";
            int greatest = 0;
            for (int n = 0; n < patternLetters.size(); n++) {
                String letters = patternLetters.get(n);
                for (int at = dotted.indexOf(letters); at >= 0; at = dotted.indexOf(letters, at + 1)) {
                    greatest = Math.max(greatest, digitInFront(patternTexts.get(n), i + 1 - at));
                }
            }
            return i >= 2 && i <= word.length() - 2 && greatest % 2 == 1;
        }

        /** The digit in front of the pattern's letter of that number, or behind the last one. */
        private static int digitInFront(String text, int number) {
            int passed = 0;
            for (char c : text.toCharArray()) {
                if (!Character.isDigit(c)) {
                    passed++;
                } else if (passed == number) {
                    return c - '0';
                }
            }
            return 0;
        }

        String points(String typed) {
            if (!typed.matches("[a-z]{1,20}")) {
                return "IllegalArgumentException";
            }
            int bits = 0;
            for (int i = 0; i < typed.length(); i++) {
                bits |= divides(typed, i) ? 1 << i : 0;
            }
            return "" + bits;
        }

        String paragraph(String typed) {
            if (!typed.matches(" *[a-z]{1,20}( +[a-z]{1,20})* *")) {
                return "IllegalArgumentException";
            }
            String text = typed.trim().replaceAll(" +", " ");
            best = null;
            seen = 0;
            walk(text, breaks(text), 0, new ArrayList<>());
            if (seen > WAYS_LIMIT) {
                return "too many";
            }
            if (best == null) {
                return "IllegalStateException";
            }
            if (galley.size() + best.size() > 60) {
                return "UnsupportedOperationException";
            }
            for (int i = 0; i < best.size(); i++) {
                galley.add(justified(best.get(i), i, best.size()));
            }
            demerits = bestSum;
            return "" + best.size();
        }

        private List<Break> breaks(String text) {
            List<Break> all = new ArrayList<>();
            all.add(new Break(0, 0, false));
            int at = 0;
            for (String word : text.split(" ")) {
                for (int i = 0; i < word.length(); i++) {
                    if (divides(word, i)) {
                        all.add(new Break(at + i, at + i, true));
                    }
                }
                at += word.length();
                all.add(new Break(at, at + 1, false));
                at++;
            }
            return all;
        }

        private void walk(String text, List<Break> breaks, int from, List<Piece> way) {
            if (seen > WAYS_LIMIT) {
                return;
            }
            seen++;
            if (from == breaks.size() - 1) {
                compare(way, breaks);
                return;
            }
            for (int to = from + 1; to < breaks.size(); to++) {
                Piece piece = piece(text, breaks, from, to);
                if (piece != null) {
                    way.add(piece);
                    walk(text, breaks, to, way);
                    way.remove(way.size() - 1);
                }
            }
        }

        private Piece piece(String text, List<Break> breaks, int from, int to) {
            String characters = text.substring(breaks.get(from).start(), breaks.get(to).end())
                    + (breaks.get(to).point() ? "-" : "");
            int g = (int) characters.chars().filter(c -> c == ' ').count();
            int e = p[0] - widthOf(characters);
            boolean last = to == breaks.size() - 1;
            if (e == 0 || last && e >= 0) {
                return new Piece(characters, from, to, e, 0, 1, last);
            }
            double s = g * (e > 0 ? p[2] : p[3]);
            if (s == 0 || -e > s) {
                return null;
            }
            java.math.BigInteger cube = java.math.BigInteger.valueOf(Math.abs(e)).pow(3);
            java.math.BigInteger give = java.math.BigInteger.valueOf((long) s).pow(3);
            long badness = cube.multiply(java.math.BigInteger.valueOf(100)).divide(give).longValueExact();
            if (badness > p[7]) {
                return null;
            }
            int kind = Math.abs(e) * 2 <= s ? 1 : e < 0 ? 0 : e <= s ? 2 : 3;
            return new Piece(characters, from, to, e, (int) badness, kind, last);
        }

        private int widthOf(String characters) {
            int sum = 0;
            for (char c : characters.toCharArray()) {
                sum += c == ' ' ? p[1] : widths[c];
            }
            return sum;
        }

        private void compare(List<Piece> way, List<Break> breaks) {
            long sum = 0;
            int kind = 1;
            for (Piece piece : way) {
                sum += (10L + piece.badness()) * (10L + piece.badness());
                boolean divided = breaks.get(piece.to()).point();
                sum += divided ? (long) p[4] * p[4] : 0;
                sum += divided && breaks.get(piece.from()).point() ? p[5] : 0;
                sum += Math.abs(kind - piece.kind()) > 1 ? p[6] : 0;
                kind = piece.kind();
            }
            if (best == null || sum < bestSum || sum == bestSum && goesFirst(way, best)) {
                best = new ArrayList<>(way);
                bestSum = sum;
            }
        }

        private static boolean goesFirst(List<Piece> way, List<Piece> other) {
            for (int i = 1; i <= Math.min(way.size(), other.size()); i++) {
                int from = way.get(way.size() - i).from();
                int otherFrom = other.get(other.size() - i).from();
                if (from != otherFrom) {
                    return from < otherFrom;
                }
            }
            return false;
        }

        private SetLine justified(Piece piece, int number, int of) {
            List<Integer> places = new ArrayList<>();
            String c = piece.characters();
            int g = c.length() - c.replace(" ", "").length();
            for (int i = 0; i < c.length(); i++) {
                String front = c.substring(0, i);
                int j = front.length() - front.replace(" ", "").length();
                int more = g == 0 || piece.last() && piece.excess() > 0 ? 0 : (int) ((double) piece.excess() * j / g);
                places.add(widthOf(front) + more);
            }
            return new SetLine(c, places, piece.badness() + 10000 * piece.kind(), number, of);
        }

        List<Integer> pages() {
            List<Integer> all = new ArrayList<>();
            for (int page = 0; all.size() < galley.size(); page++) {
                int left = galley.size() - all.size();
                int length = Math.min(p[8], left);
                while (length > 0 && length < left && alone(all.size() + length)) {
                    length--;
                }
                for (int i = length == 0 ? p[8] : length; i > 0; i--) {
                    all.add(page);
                }
            }
            return all;
        }

        private boolean alone(int next) {
            SetLine foot = galley.get(next - 1);
            SetLine head = galley.get(next);
            return foot.of() > 1 && foot.number() == 0 || head.of() > 1 && head.number() == head.of() - 1;
        }
    }

    private static int[] outcomes = new int[5];

    public static void main(String[] args) {
        for (int run = 0; run < RUNS; run++) {
            oneRun(run, new Numbers(run));
        }
        Checks.holds("many paragraphs were set", outcomes[0] > 10000);
        Checks.holds("some could not be set", outcomes[1] > 1000);
        Checks.holds("some had no room", outcomes[2] > 50);
        Checks.holds("some had several lines", outcomes[3] > 5000);
        Checks.holds("some had hyphens", outcomes[4] > 500);
        Checks.end();
    }

    private static void oneRun(int run, Numbers n) {
        GalleySetter s = new GalleySetter();
        Model m = new Model();
        boolean tied = n.once(2);
        for (int call = 0; call < CALLS; call++) {
            String what = "run " + run + " call " + call + " ";
            switch (n.below(10)) {
                case 0 -> onePattern(what, n, s, m);
                case 1 -> oneParameter(n, s, m, tied);
                case 2 -> oneWidth(n, s, m);
                case 3 -> onePoints(what, n, s, m);
                case 4 -> clearOrSet(what, n, s, m);
                default -> oneParagraph(what, n, s, m);
            }
            Checks.due(what + "lines", s.lines(), m.galley.size());
            Checks.due(what + "demerits", s.demerits(), m.demerits);
        }
        compareAll("run " + run, s, m);
    }

    private static void onePattern(String what, Numbers n, GalleySetter s, Model m) {
        StringBuilder typed = new StringBuilder(n.once(4) ? "." : "");
        int letters = 1 + n.below(3);
        for (int i = 0; i < letters; i++) {
            typed.append(n.once(2) ? "" : n.below(6)).append((char) ('a' + n.below(3)));
        }
        typed.append(n.once(2) ? "" : n.below(6)).append(n.once(5) ? "." : "");
        s.wipe();
        Checks.typed(s, typed.toString());
        Checks.due(what + "pattern " + typed, Checks.outcome(s::pattern), m.pattern(typed.toString()));
    }

    private static void oneParameter(Numbers n, GalleySetter s, Model m, boolean tied) {
        int p = n.below(9);
        int v = switch (p) {
            case 0 -> n.among(20, 30, 40, 60, 80, 100, 77);
            case 1 -> n.among(0, 2, 6, 10, 60);
            case 2 -> tied ? n.among(60, 50, 40) : n.among(0, 1, 3, 10, 20, 60);
            case 3 -> tied ? n.among(60, 0, 30) : n.among(0, 1, 2, 5, 10, 60);
            case 4 -> tied ? 0 : n.among(0, 50, 1000);
            case 5 -> tied ? 0 : n.among(0, 3000, 99999);
            case 6 -> tied ? n.among(0, 0, 1) : n.among(0, 1, 3000, 99999);
            case 7 -> n.among(0, 200, 1000, 9999, 9999);
            default -> 2 + n.below(6);
        };
        s.set(p, v);
        m.p[p] = v;
    }

    private static void oneWidth(Numbers n, GalleySetter s, Model m) {
        char c = "abc-".charAt(n.below(4));
        int w = n.among(1, 5, 10, 15, 20, 7);
        s.width(c, w);
        m.widths[c] = w;
    }

    private static void onePoints(String what, Numbers n, GalleySetter s, Model m) {
        String word = word(n, 1 + n.below(20));
        s.wipe();
        Checks.typed(s, word);
        Checks.due(what + "points " + word, Checks.outcome(s::points), m.points(word));
    }

    private static void clearOrSet(String what, Numbers n, GalleySetter s, Model m) {
        if (n.once(10)) {
            compareAll(what, s, m);
            s.clear();
            m.galley.clear();
        }
    }

    private static void oneParagraph(String what, Numbers n, GalleySetter s, Model m) {
        StringBuilder typed = new StringBuilder(" ".repeat(n.below(2)));
        int words = 1 + n.below(10);
        int longest = n.among(1, 2, 4, 8);
        for (int i = 0; i < words && typed.length() < 60; i++) {
            typed.append(word(n, 1 + n.below(longest))).append(" ".repeat(1 + n.below(n.among(1, 2))));
        }
        String due = m.paragraph(typed.toString());
        if (due.equals("too many")) {
            return;
        }
        s.wipe();
        Checks.typed(s, typed.toString());
        Checks.due(what + "paragraph " + typed, Checks.outcome(s::paragraph), due);
        count(due, m);
    }

    private static void count(String due, Model m) {
        if (due.equals("IllegalStateException")) {
            outcomes[1]++;
        } else if (due.equals("UnsupportedOperationException")) {
            outcomes[2]++;
        } else {
            outcomes[0]++;
            outcomes[3] += m.best.size() > 1 ? 1 : 0;
            outcomes[4] += m.best.stream().anyMatch(piece -> piece.characters().endsWith("-")) ? 1 : 0;
        }
    }

    private static String word(Numbers n, int letters) {
        StringBuilder word = new StringBuilder();
        for (int i = 0; i < letters; i++) {
            word.append((char) ('a' + n.below(3)));
        }
        return word.toString();
    }

    private static void compareAll(String what, GalleySetter s, Model m) {
        List<Integer> pages = m.pages();
        for (int k = 0; k < Math.min(m.galley.size(), s.lines()); k++) {
            SetLine line = m.galley.get(k);
            Checks.due(what + " line " + k, Checks.line(s, k), line.characters());
            Checks.due(what + " places " + k, Checks.places(s, k),
                    line.places().toString().replaceAll("[\\[\\],]", ""));
            Checks.due(what + " badness " + k, s.badness(k), line.mark());
            Checks.due(what + " page " + k, s.page(k), pages.get(k));
        }
    }
}
