/** Runs all tests of the project; ends with exit code 1 if one fails. */
public final class AllTests {
    private AllTests() { }

    public static void main(String[] args) {
        FaceTest.run();
        SourceTest.run();
        VatsTest.run();
        ValvesTest.run();
        HoursTest.run();
        TextsTest.run();
        LooksTest.run();
        WouldBeTest.run();
        ModelTest.run();
        if (!Check.end()) {
            System.exit(1);
        }
    }
}
