/** Runs all tests of the project; ends with exit code 1 if one fails. */
public final class AllTests {
    // They take some seconds.
    private static final long MOST_MILLISECONDS = 300_000;

    private AllTests() { }

    /** A call that never ends must fail the tests, too. */
    private static void watch() {
        try {
            Thread.sleep(MOST_MILLISECONDS);
        } catch (InterruptedException e) {
            return;
        }
        System.out.println("FAILED: a call does not end");
        Runtime.getRuntime().halt(1);
    }

    public static void main(String[] args) {
        Thread watch = new Thread(AllTests::watch);
        watch.setDaemon(true);
        watch.start();
        FaceTest.run();
        SourceTest.run();
        LibraryTest.run();
        RoomTest.run();
        ReadmeTest.run();
        VatBoundaries.run();
        VatsTest.run();
        ValveBoundaries.run();
        HourBoundaries.run();
        ValvesTest.run();
        HoursTest.run();
        TextBoundaries.run();
        TextsTest.run();
        SavedBoundaries.run();
        LookBoundaries.run();
        LooksTest.run();
        WouldBeBoundaries.run();
        WouldBeTest.run();
        ModelTest.run();
        if (!Check.end()) {
            System.exit(1);
        }
    }
}
