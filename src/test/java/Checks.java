import java.util.concurrent.Callable;

/** What the tests share: answers are compared, exceptions are expected, wrong ones are counted. */
final class Checks {
    private static int wrong = 0;
    private static int made = 0;

    private Checks() {
    }

    static void due(String what, long got, long want) {
        made++;
        if (got != want) {
            wrong++;
            System.out.println(what + " answered " + got + ", due is " + want);
        }
    }

    static void due(String what, String got, String want) {
        made++;
        if (!got.equals(want)) {
            wrong++;
            System.out.println(what + " answered '" + got + "', due is '" + want + "'");
        }
    }

    static void holds(String what, boolean got) {
        due(what, got ? 1 : 0, 1);
    }

    /** The very class is due, not one below it. */
    static void refused(String what, Class<? extends RuntimeException> want, Callable<?> call) {
        due(what, outcome(call), want.getSimpleName());
    }

    static void refused(String what, Class<? extends RuntimeException> want, Runnable call) {
        refused(what, want, () -> {
            call.run();
            return "nothing";
        });
    }

    /** The answer as a text, or the simple name of the exception. */
    static String outcome(Callable<?> call) {
        try {
            return String.valueOf(call.call());
        } catch (Exception e) {
            return e.getClass().getSimpleName();
        }
    }

    static GalleySetter typed(GalleySetter setter, String characters) {
        for (int i = 0; i < characters.length(); i++) {
            setter.type(characters.charAt(i));
        }
        return setter;
    }

    static int pattern(GalleySetter setter, String characters) {
        setter.wipe();
        return typed(setter, characters).pattern();
    }

    static int points(GalleySetter setter, String word) {
        setter.wipe();
        int bits = typed(setter, word).points();
        setter.wipe();
        return bits;
    }

    static int paragraph(GalleySetter setter, String characters) {
        setter.wipe();
        return typed(setter, characters).paragraph();
    }

    static String line(GalleySetter setter, int k) {
        StringBuilder all = new StringBuilder();
        for (int i = 0; i < setter.size(k); i++) {
            all.append(setter.at(k, i));
        }
        return all.toString();
    }

    static String galley(GalleySetter setter) {
        StringBuilder all = new StringBuilder();
        for (int k = 0; k < setter.lines(); k++) {
            all.append(k == 0 ? "" : "|").append(line(setter, k));
        }
        return all.toString();
    }

    static String places(GalleySetter setter, int k) {
        StringBuilder all = new StringBuilder();
        for (int i = 0; i < setter.size(k); i++) {
            all.append(i == 0 ? "" : " ").append(setter.x(k, i));
        }
        return all.toString();
    }

    static String pages(GalleySetter setter) {
        StringBuilder all = new StringBuilder();
        for (int k = 0; k < setter.lines(); k++) {
            all.append(k == 0 ? "" : " ").append(setter.page(k));
        }
        return all.toString();
    }

    /** How many characters are typed: by typing one more, which is then wiped with all others. */
    static int countTyped(GalleySetter setter) {
        int count = setter.type('a') - 1;
        setter.wipe();
        return count;
    }

    static void end() {
        System.out.println(made + " checks, " + wrong + " wrong");
        if (wrong != 0) {
            System.exit(1);
        }
    }
}
