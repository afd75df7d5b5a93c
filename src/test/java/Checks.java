import java.util.concurrent.Callable;
import java.util.function.Consumer;
import java.util.function.Supplier;

/** What the tests share: answers are compared, exceptions are expected, wrong ones are counted. */
final class Checks {
    private static int wrong = 0;
    private static int made = 0;
    private static String sentence = "";

    private Checks() {
    }

    /** The words of the document that the next checks are about: a wrong answer is told with them. */
    static void sentence(String words) {
        sentence = "\"" + words + "\": ";
    }

    static void due(String what, long got, long want) {
        due(what, String.valueOf(got), String.valueOf(want));
    }

    static void due(String what, String got, String want) {
        made++;
        if (!got.equals(want)) {
            wrong++;
            System.out.println(sentence + what + " answered '" + got + "', due is '" + want + "'");
        }
    }

    static void holds(String what, boolean got) {
        due(what, got ? 1 : 0, 1);
    }

    /** The very class is due, not one below it. */
    static void refused(String what, Class<? extends RuntimeException> want, Callable<?> call) {
        due(what, outcome(call), want.getSimpleName());
    }

    static void refused(String what, Class<? extends RuntimeException> want, Runnable call) {
        refused(what, want, () -> {
            call.run();
            return "nothing";
        });
    }

    /**
     * A refused call: the very exception, and then all that can be seen is as it is in an object that
     * was made by the same calls without the refused one.
     */
    static void refusedAndStays(String what, Class<? extends RuntimeException> want,
            Supplier<GalleySetter> make, Consumer<GalleySetter> call) {
        GalleySetter tried = make.get();
        refused(what, want, () -> call.accept(tried));
        due("what is seen behind: " + what, state(tried), state(make.get()));
        // How many characters are typed is seen by one more, but what they are is then seen no longer.
        GalleySetter triedAgain = make.get();
        refused(what, want, () -> call.accept(triedAgain));
        due("what is seen by typing behind: " + what, stateByTyping(triedAgain), stateByTyping(make.get()));
    }

    private static String stateByTyping(GalleySetter setter) {
        return outcome(() -> setter.type('a')) + " typed, " + state(setter);
    }

    /** All that can be seen of an object; it is used up by looking. */
    private static String state(GalleySetter setter) {
        StringBuilder all = new StringBuilder(someLines(setter));
        all.append(" points ").append(outcome(setter::points));
        all.append(" paragraph ").append(outcome(setter::paragraph));
        all.append(" pattern ").append(outcome(setter::pattern));
        all.append(" typed ").append(outcome(() -> setter.type('a')));
        all.append(someLines(setter));
        all.append(" ababbc ").append(points(setter, "ababbc"));
        all.append(" one more pattern ").append(outcome(() -> pattern(setter, "a3bbbbbb")));
        setter.clear();
        all.append(" paragraph ").append(outcome(() -> paragraph(setter, "abcde cd ed")));
        return all.append(someLines(setter)).toString();
    }

    /** The lines at both ends of the galley: more would take more calls than an object has. */
    private static String someLines(GalleySetter setter) {
        int count = setter.lines();
        StringBuilder all = new StringBuilder().append(count).append(" lines, ").append(setter.demerits());
        for (int k = 0; k < count; k++) {
            if (k < 2 || k >= count - 2) {
                all.append(" [").append(line(setter, k)).append("] ").append(places(setter, k));
                all.append(" badness ").append(setter.badness(k)).append(" page ").append(setter.page(k));
            }
        }
        return all.toString();
    }

    /** The answer as a text, or the simple name of the exception. */
    static String outcome(Callable<?> call) {
        try {
            return String.valueOf(call.call());
        } catch (Exception e) {
            return e.getClass().getSimpleName();
        }
    }

    static GalleySetter typed(GalleySetter setter, String characters) {
        for (int i = 0; i < characters.length(); i++) {
            setter.type(characters.charAt(i));
        }
        return setter;
    }

    static int pattern(GalleySetter setter, String characters) {
        setter.wipe();
        return typed(setter, characters).pattern();
    }

    static int points(GalleySetter setter, String word) {
        setter.wipe();
        int bits = typed(setter, word).points();
        setter.wipe();
        return bits;
    }

    static int paragraph(GalleySetter setter, String characters) {
        setter.wipe();
        return typed(setter, characters).paragraph();
    }

    /** A galley with paragraphs of so many lines, each of one letter a. */
    static GalleySetter filled(int height, int... paragraphs) {
        GalleySetter setter = new GalleySetter();
        setter.set(0, 20);
        setter.set(8, height);
        setter.width('a', 20);
        for (int lines : paragraphs) {
            due("lines", typed(setter, "a ".repeat(lines)).paragraph(), lines);
        }
        return setter;
    }

    static String line(GalleySetter setter, int k) {
        StringBuilder all = new StringBuilder();
        int size = setter.size(k);
        for (int i = 0; i < size; i++) {
            all.append(setter.at(k, i));
        }
        return all.toString();
    }

    static String galley(GalleySetter setter) {
        StringBuilder all = new StringBuilder();
        int count = setter.lines();
        for (int k = 0; k < count; k++) {
            all.append(k == 0 ? "" : "|").append(line(setter, k));
        }
        return all.toString();
    }

    static String places(GalleySetter setter, int k) {
        StringBuilder all = new StringBuilder();
        int size = setter.size(k);
        for (int i = 0; i < size; i++) {
            all.append(i == 0 ? "" : " ").append(setter.x(k, i));
        }
        return all.toString();
    }

    static String pages(GalleySetter setter) {
        StringBuilder all = new StringBuilder();
        int count = setter.lines();
        for (int k = 0; k < count; k++) {
            all.append(k == 0 ? "" : " ").append(setter.page(k));
        }
        return all.toString();
    }

    /** How many characters are typed: by typing one more, which is then wiped with all others. */
    static int countTyped(GalleySetter setter) {
        int count = setter.type('a') - 1;
        setter.wipe();
        return count;
    }

    static void end() {
        System.out.println(made + " checks, " + wrong + " wrong");
        if (wrong != 0) {
            System.exit(1);
        }
    }
}
