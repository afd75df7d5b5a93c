/** The example of README.md answers what it says there. */
public final class ReadmeTest {
    public static void main(String[] args) {
        GalleySetter setter = new GalleySetter();
        Checks.due("patterns", Checks.typed(setter, "1na").pattern(), 1);
        setter.set(0, 50);
        Checks.due("lines of the paragraph", Checks.typed(setter, "banana").paragraph(), 2);
        Checks.due("lines of the galley", Checks.galley(setter), "bana-|na");
        Checks.due("places of line 0", Checks.places(setter, 0), "0 10 20 30 40");
        Checks.due("places of line 1", Checks.places(setter, 1), "0 10");
        Checks.due("pages", Checks.pages(setter), "0 0");
        Checks.end();
    }
}
