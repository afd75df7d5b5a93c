import java.util.function.Consumer;
import java.util.function.Function;

/** 'An object is used for at most 512 calls': each of them answers, and the last one too. */
public final class CallLimitTest {
    private static final int CALLS = 512;
    private static final String WORD = "aa" + "b".repeat(18);
    private static final String SIXTY_LINES = WORD + " " + WORD + " " + WORD + " aabbbbbb";

    public static void main(String[] args) {
        Checks.sentence("An object is used for at most 512 calls after it has been made");
        eachAsTheLast();
        allTyping();
        manyPatterns();
        manyParagraphs();
        dearestTexts();
        Checks.end();
    }

    /** 511 calls are used, aabb has been set and is typed again. */
    private static GalleySetter used() {
        GalleySetter s = new GalleySetter();
        s.set(0, 30);
        Checks.typed(s, "1bb").pattern();
        Checks.typed(s, "aabb").paragraph();
        int before = 1 + 4 + 5;
        for (int i = before; i < CALLS - 1 - 4; i++) {
            Checks.due("lines", s.lines(), 2);
        }
        return Checks.typed(s, "aabb");
    }

    private static void last(String what, String due, Function<GalleySetter, Object> call) {
        GalleySetter s = used();
        Checks.due(what + " as call 512", Checks.outcome(() -> call.apply(s)), due);
    }

    private static void done(String what, String due, Consumer<GalleySetter> call) {
        last(what, due, s -> {
            call.accept(s);
            return "done";
        });
    }

    private static void eachAsTheLast() {
        last("type", "5", s -> s.type('b'));
        last("type of a wrong one", "IllegalArgumentException", s -> s.type('-'));
        last("pattern", "2", GalleySetter::pattern);
        last("points", "4", GalleySetter::points);
        last("paragraph", "2", GalleySetter::paragraph);
        last("demerits", "2700", GalleySetter::demerits);
        last("lines", "2", GalleySetter::lines);
        last("size", "3", s -> s.size(0));
        last("at", "-", s -> s.at(0, 2));
        last("x", "20", s -> s.x(0, 2));
        last("x of none", "IndexOutOfBoundsException", s -> s.x(0, 3));
        last("badness", "10000", s -> s.badness(1));
        last("page", "0", s -> s.page(1));
        last("page of none", "IndexOutOfBoundsException", s -> s.page(2));
        done("wipe", "done", GalleySetter::wipe);
        done("set", "done", s -> s.set(8, 30));
        done("set too large", "IllegalArgumentException", s -> s.set(8, 31));
        done("width", "done", s -> s.width('-', 60));
        done("clear", "done", GalleySetter::clear);
    }

    private static void allTyping() {
        GalleySetter s = new GalleySetter();
        for (int call = 1; call <= CALLS; call++) {
            if (call % 81 == 0) {
                s.wipe();
            } else {
                Checks.due("type as call " + call, s.type('a'), call % 81);
            }
        }
    }

    /** 128 patterns, of which 30 have letters of their own. */
    private static void manyPatterns() {
        GalleySetter s = new GalleySetter();
        for (int i = 0; i < CALLS / 4; i++) {
            Checks.typed(s, "" + (char) ('a' + i % 6) + i % 10 + (char) ('a' + i / 6 % 5));
            Checks.due("pattern as call " + (i + 1) * 4, s.pattern(), Math.min(i + 1, 30));
        }
    }

    private static void manyParagraphs() {
        GalleySetter s = new GalleySetter();
        for (int round = 0; round < 5; round++) {
            setOften(s, 50);
            s.clear();
        }
        // 505 calls by now.
        setOften(s, 3);
        Checks.due("lines as call 512", s.lines(), 3);
    }

    private static void setOften(GalleySetter s, int times) {
        for (int i = 0; i < times; i++) {
            Checks.due("paragraph", Checks.typed(s, "a").paragraph(), 1);
        }
    }

    private static void dearestTexts() {
        GalleySetter s = new GalleySetter();
        s.set(0, 20);
        s.width('a', 5);
        Checks.typed(s, "1b").pattern();
        int call = 5;
        while (call + SIXTY_LINES.length() + 2 <= CALLS) {
            Checks.due("60 lines", Checks.typed(s, SIXTY_LINES).paragraph(), 60);
            s.clear();
            call += SIXTY_LINES.length() + 2;
        }
        for (int i = 1; call < CALLS; i++) {
            call++;
            Checks.due("type as call " + call, s.type('b'), i);
        }
    }
}
