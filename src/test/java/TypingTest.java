/** Promises 1 to 3: a new object, type, wipe. */
public final class TypingTest {
    public static void main(String[] args) {
        newObject();
        everyCharacter();
        eighty();
        wiped();
        twoObjects();
        Checks.end();
    }

    private static void newObject() {
        GalleySetter s = new GalleySetter();
        Checks.due("lines of a new object", s.lines(), 0);
        Checks.due("demerits of a new object", s.demerits(), 0);
        Checks.refused("line 0 of a new object", IndexOutOfBoundsException.class, () -> s.size(0));
        Checks.refused("nothing typed is no word", IllegalArgumentException.class, s::points);
        Checks.refused("nothing typed is no pattern", IllegalArgumentException.class, s::pattern);
        Checks.refused("nothing typed is no text", IllegalArgumentException.class, s::paragraph);
        Checks.due("typed in a new object", Checks.countTyped(s), 0);
        Checks.due("points without patterns", Checks.points(s, "abcdefghijklmnopqrst"), 0);
        Checks.due("the first pattern", Checks.pattern(s, "a"), 1);
    }

    private static void everyCharacter() {
        for (int c = 0; c <= 0xffff; c++) {
            GalleySetter s = new GalleySetter();
            char typed = (char) c;
            if ("abcdefghijklmnopqrstuvwxyz0123456789. ".indexOf(typed) >= 0) {
                Checks.due("type " + c, s.type(typed), 1);
            } else {
                Checks.refused("type " + c, IllegalArgumentException.class, () -> s.type(typed));
                Checks.due("typed behind the refused", Checks.countTyped(s), 0);
            }
        }
    }

    private static void eighty() {
        GalleySetter s = new GalleySetter();
        for (int i = 1; i <= 80; i++) {
            Checks.due("character " + i, s.type("a .7".charAt(i % 4)), i);
        }
        Checks.refused("character 81", IllegalStateException.class, () -> s.type('a'));
        Checks.refused("a wrong one behind 80", IllegalArgumentException.class, () -> s.type('A'));
        Checks.refused("character 81 again", IllegalStateException.class, () -> s.type(' '));
        s.wipe();
        Checks.due("type behind wipe", s.type('z'), 1);
    }

    private static void wiped() {
        GalleySetter s = new GalleySetter();
        s.wipe();
        Checks.due("type", s.type('.'), 1);
        Checks.due("type", s.type('a'), 2);
        s.wipe();
        Checks.refused("points behind wipe", IllegalArgumentException.class, s::points);
        Checks.due("type", s.type('b'), 1);
        Checks.due("what was typed is gone", s.points(), 0);
    }

    private static void twoObjects() {
        GalleySetter one = new GalleySetter();
        GalleySetter other = new GalleySetter();
        Checks.pattern(one, "1a");
        one.set(0, 20);
        one.width('a', 20);
        one.type('a');
        one.paragraph();
        Checks.due("the other's points", Checks.points(other, "aaaa"), 0);
        Checks.due("the other's lines", other.lines(), 0);
        Checks.due("the other's demerits", other.demerits(), 0);
        Checks.due("the other's paragraph", Checks.paragraph(other, "aaaa aaaa"), 1);
        Checks.due("the other's places", Checks.places(other, 0), "0 10 20 30 40 46 56 66 76");
    }
}
