import java.util.Arrays;
import java.util.concurrent.Callable;

/** All promises: runs of 512 calls, good and wrong ones, each answered as the reference answers it. */
public final class ReferenceTest {
    private static final int RUNS = 6000;
    private static final int CALLS = 512;
    /** Wiping, the longest text, one character too many and the call that takes it. */
    private static final int DEAREST_STEP = 83;
    private static final int CALLS_FOR_LOOKING = 120;

    /** Always the same numbers, so that a fault shows again. */
    private static final class Numbers {
        private long state;

        Numbers(long seed) {
            state = seed * 7919 + 17;
        }

        int below(int bound) {
            state = state * 6364136223846793005L + 1442695040888963407L;
            return (int) ((state >>> 33) % bound);
        }

        int among(int... values) {
            return values[below(values.length)];
        }

        boolean once(int in) {
            return below(in) == 0;
        }
    }

    /** The class and the reference get the same calls; what later ones than the 512th answer is free. */
    private static final class Pair {
        final GalleySetter s = new GalleySetter();
        final Reference r = new Reference();
        final String name;
        int calls = 0;

        Pair(String name) {
            this.name = name;
        }

        int left() {
            return CALLS - calls;
        }

        void same(String what, Callable<?> call, Object due) {
            calls++;
            Checks.due(name + " call " + calls + " " + what, Checks.outcome(call), String.valueOf(due));
        }

        void done(String what, Runnable call, Object due) {
            same(what, () -> {
                call.run();
                return "done";
            }, due);
        }

        void type(String characters) {
            for (char c : characters.toCharArray()) {
                same("type " + c, () -> s.type(c), r.type(c));
            }
        }

        void wipe() {
            r.wipe();
            done("wipe", s::wipe, "done");
        }

        void set(int parameter, int v) {
            done("set " + parameter + " " + v, () -> s.set(parameter, v), r.set(parameter, v));
        }

        void width(char c, int w) {
            done("width " + c + " " + w, () -> s.width(c, w), r.width(c, w));
        }

        void clear() {
            r.clear();
            done("clear", s::clear, "done");
        }

        void paragraph() {
            String due = r.paragraph();
            if (due.equals(Reference.TOO_MANY)) {
                wipe();
            } else {
                same("paragraph", s::paragraph, due);
            }
            count(due);
        }
    }

    private static final String[] REFUSED = {
        Reference.ARGUMENT, Reference.STATE, Reference.UNSUPPORTED, Reference.TOO_MANY,
    };
    private static final int[] refused = new int[REFUSED.length];
    private static int setInOneLine = 0;
    private static int setInSeveral = 0;

    public static void main(String[] args) {
        for (int run = 0; run < RUNS; run++) {
            oneRun(new Pair("run " + run), new Numbers(run));
        }
        Checks.holds("many texts were set in a line: " + setInOneLine, setInOneLine > 5000);
        Checks.holds("many were set in several: " + setInSeveral, setInSeveral > 10000);
        for (int i = 0; i < 3; i++) {
            Checks.holds(refused[i] + " had " + REFUSED[i], refused[i] > 500);
        }
        Checks.end();
    }

    private static void count(String due) {
        int kind = Arrays.asList(REFUSED).indexOf(due);
        if (kind >= 0) {
            refused[kind]++;
        } else if (due.equals("1")) {
            setInOneLine++;
        } else {
            setInSeveral++;
        }
    }

    private static void oneRun(Pair pair, Numbers n) {
        boolean tied = n.once(2);
        boolean narrow = n.once(3);
        for (int i = n.below(10); i > 0; i--) {
            onePattern(pair, n);
        }
        for (int i = n.below(10); i > 0; i--) {
            oneParameter(pair, n, tied);
        }
        for (int i = n.below(5); i > 0; i--) {
            oneWidth(pair, n);
        }
        if (narrow) {
            aLetterFillsALine(pair);
        }
        while (pair.left() > DEAREST_STEP + CALLS_FOR_LOOKING) {
            oneStep(pair, n, tied, narrow);
        }
        while (pair.left() > 0) {
            oneLook(pair, n);
        }
    }

    private static void aLetterFillsALine(Pair pair) {
        pair.set(0, 20);
        pair.set(3, 2);
        for (char c : new char[] {'a', 'b', 'c'}) {
            pair.width(c, 20);
        }
    }

    private static void oneStep(Pair pair, Numbers n, boolean tied, boolean narrow) {
        switch (n.below(12)) {
            case 0 -> onePattern(pair, n);
            case 1 -> oneParameter(pair, n, tied);
            case 2 -> oneWidth(pair, n);
            case 3 -> onePoints(pair, n);
            case 4 -> oneWrong(pair, n);
            case 5 -> oneLook(pair, n);
            default -> oneParagraph(pair, n, narrow);
        }
    }

    private static void onePattern(Pair pair, Numbers n) {
        StringBuilder typed = new StringBuilder(n.once(4) ? "." : "");
        int letters = n.once(10) ? n.below(10) : 1 + n.below(3);
        for (int i = 0; i < letters; i++) {
            typed.append(n.once(2) ? "" : n.below(n.once(30) ? 100 : 6)).append(letter(n));
        }
        typed.append(n.once(2) ? "" : n.below(6)).append(n.once(5) ? "." : "");
        pair.wipe();
        pair.type(typed.toString());
        pair.same("pattern", pair.s::pattern, pair.r.pattern());
    }

    private static void oneParameter(Pair pair, Numbers n, boolean tied) {
        int parameter = n.below(9);
        pair.set(parameter, switch (parameter) {
            case 0 -> n.among(20, 30, 40, 60, 80, 100, 77);
            case 1 -> n.among(0, 2, 6, 10, 60);
            case 2 -> tied ? n.among(60, 50, 40) : n.among(0, 1, 3, 10, 20, 60);
            case 3 -> tied ? n.among(60, 0, 30) : n.among(0, 1, 2, 5, 10, 60);
            case 4 -> tied ? 0 : n.among(0, 50, 1000);
            case 5 -> tied ? 0 : n.among(0, 3000, 99999);
            case 6 -> tied ? n.among(0, 0, 1) : n.among(0, 1, 3000, 99999);
            case 7 -> n.among(0, 200, 1000, 9999, 9999);
            default -> 2 + n.below(6);
        });
    }

    private static void oneWidth(Pair pair, Numbers n) {
        pair.width("abc-".charAt(n.below(4)), n.among(1, 5, 10, 15, 20, 7));
    }

    private static void onePoints(Pair pair, Numbers n) {
        pair.wipe();
        pair.type(word(n, n.below(22)));
        pair.same("points", pair.s::points, pair.r.points());
    }

    private static void oneWrong(Pair pair, Numbers n) {
        switch (n.below(7)) {
            case 0 -> pair.type("" + "A-,/:`{\u00e1".charAt(n.below(8)));
            case 1 -> pair.set(n.among(-1, 9, Integer.MIN_VALUE, Integer.MAX_VALUE), 20);
            case 2 -> pair.set(n.below(9), n.among(-1, 1, 19, 31, 61, 601, 1001, 10000, 100000, Integer.MIN_VALUE));
            case 3 -> pair.width(letter(n), n.among(-1, 0, 61, Integer.MIN_VALUE, Integer.MAX_VALUE));
            case 4 -> pair.width(",.`{ A0".charAt(n.below(7)), 10);
            case 5 -> pair.same("pattern", pair.s::pattern, pair.r.pattern());
            default -> pair.paragraph();
        }
    }

    private static void oneParagraph(Pair pair, Numbers n, boolean narrow) {
        StringBuilder typed = new StringBuilder(" ".repeat(n.below(2)));
        int words = narrow ? 1 + n.below(42) : 1 + n.below(10);
        int longest = narrow ? 1 : n.among(1, 2, 4, 8);
        for (int i = 0; i < words && typed.length() < (narrow ? 80 : 60); i++) {
            typed.append(word(n, 1 + n.below(longest))).append(" ".repeat(1 + n.below(n.among(1, 2))));
        }
        if (n.once(30)) {
            typed.append(n.once(2) ? "." : word(n, 21));
        }
        pair.wipe();
        pair.type(typed.substring(0, Math.min(typed.length(), 81)));
        if (n.once(25)) {
            pair.clear();
        }
        pair.paragraph();
    }

    private static void oneLook(Pair pair, Numbers n) {
        int k = n.below(pair.r.lines() + 2) - 1;
        String size = pair.r.size(k);
        int i = n.below(size.equals(Reference.INDEX) ? 2 : Integer.parseInt(size) + 2) - 1;
        switch (n.below(8)) {
            case 0 -> pair.same("lines", pair.s::lines, pair.r.lines());
            case 1 -> pair.same("demerits", pair.s::demerits, pair.r.demerits());
            case 2 -> pair.same("size " + k, () -> pair.s.size(k), pair.r.size(k));
            case 3 -> pair.same("badness " + k, () -> pair.s.badness(k), pair.r.badness(k));
            case 4 -> pair.same("page " + k, () -> pair.s.page(k), pair.r.page(k));
            case 5 -> pair.same("at " + k + " " + i, () -> pair.s.at(k, i), pair.r.at(k, i));
            default -> pair.same("x " + k + " " + i, () -> pair.s.x(k, i), pair.r.x(k, i));
        }
    }

    private static char letter(Numbers n) {
        return (char) ('a' + n.below(3));
    }

    private static String word(Numbers n, int letters) {
        StringBuilder word = new StringBuilder();
        for (int i = 0; i < letters; i++) {
            word.append(letter(n));
        }
        return word.toString();
    }
}
