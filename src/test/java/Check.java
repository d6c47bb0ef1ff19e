/** A test is a body that ends without an exception; its first wrong answer ends it. */
final class Check {
    private static int passed = 0;
    private static int failed = 0;

    private Check() { }

    static void test(String name, Runnable body) {
        try {
            body.run();
            passed++;
        } catch (RuntimeException | AssertionError e) {
            failed++;
            System.out.println("FAILED: " + name + ": " + e);
        }
    }

    static void due(long want, long got) {
        due("", want, got);
    }

    static void due(String what, long want, long got) {
        if (want != got) {
            throw new AssertionError(what + " answered " + got + ", due is " + want);
        }
    }

    static void dueDouble(double want, double got) {
        due("a double's bits", Double.doubleToRawLongBits(want), Double.doubleToRawLongBits(got));
    }

    static void dueText(String what, String want, String got) {
        if (!want.equals(got)) {
            throw new AssertionError(what + " answered " + got + ", due is " + want);
        }
    }

    /** The class must be this very one: the machine's own exceptions are classes below it. */
    static void dueThrow(Class<? extends RuntimeException> want, Runnable call) {
        Class<?> got = null;
        try {
            call.run();
        } catch (RuntimeException e) {
            got = e.getClass();
        }
        if (got != want) {
            throw new AssertionError("threw " + got + ", due is " + want);
        }
    }

    static boolean end() {
        System.out.println("own tests: " + passed + " passed, " + failed + " failed");
        return failed == 0 && passed > 0;
    }
}
