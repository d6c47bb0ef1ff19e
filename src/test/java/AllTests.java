/** Runs all tests of the project; ends with exit code 1 if one fails. */
public final class AllTests {
    private AllTests() { }

    public static void main(String[] args) {
        FaceTest.run();
        SourceTest.run();
        RoomTest.run();
        VatBoundaries.run();
        VatsTest.run();
        ValveBoundaries.run();
        HourBoundaries.run();
        ValvesTest.run();
        HoursTest.run();
        TextBoundaries.run();
        TextsTest.run();
        SavedBoundaries.run();
        LookBoundaries.run();
        LooksTest.run();
        WouldBeBoundaries.run();
        WouldBeTest.run();
        ModelTest.run();
        if (!Check.end()) {
            System.exit(1);
        }
    }
}
