/** Promises 6 to 9. */
final class ValvesTest {
    private static final Class<IndexOutOfBoundsException> INDEX = IndexOutOfBoundsException.class;
    private static final Class<IllegalArgumentException> ARGUMENT = IllegalArgumentException.class;
    private static final Class<IllegalStateException> STATE = IllegalStateException.class;

    private ValvesTest() { }

    static void run() {
        Check.test("6 valve", ValvesTest::valve);
        Check.test("6 valve throws", ValvesTest::valveThrows);
        Check.test("6 valve's limit", ValvesTest::valveLimit);
        Check.test("7 close", ValvesTest::close);
        Check.test("7 close throws", ValvesTest::closeThrows);
        Check.test("8 pipe", ValvesTest::pipe);
        Check.test("8 pipe throws", ValvesTest::pipeThrows);
        Check.test("9 set", ValvesTest::set);
        Check.test("9 set throws", ValvesTest::setThrows);
    }

    static void dueValve(DyeVats vats, int valve, int... parts) {
        for (int what = 0; what < parts.length; what++) {
            Check.due("valveOf(" + valve + ", " + what + ")", parts[what], vats.valveOf(valve, what));
        }
    }

    private static void valve() {
        DyeVats vats = new DyeVats();
        Check.due(0, vats.valve(0, 4, 1, 0, 0));
        Check.due(1, vats.valve(4, 0, 500, 23, 23));
        Check.due(2, vats.valve(3, 5, 77, 0, 23));
        dueValve(vats, 0, 0, 4, 1, 0, 0, 1, 0);
        dueValve(vats, 1, 4, 0, 500, 23, 23, 0, 0);
        dueValve(vats, 2, 3, 5, 77, 0, 23, 1, 0);
        Check.due(3, vats.count(2));
        Check.due(2, vats.undo());
        Check.due(2, vats.count(2));
        Check.due(2, vats.valve(1, 2, 3, 4, 5));
        dueValve(vats, 2, 1, 2, 3, 4, 5, 0, 0);
    }

    private static void valveThrows() {
        DyeVats vats = new DyeVats();
        Check.dueThrow(INDEX, () -> vats.valve(5, 0, 1, 0, 0));
        Check.dueThrow(INDEX, () -> vats.valve(-1, 0, 1, 0, 0));
        Check.dueThrow(INDEX, () -> vats.valve(0, 6, 1, 0, 0));
        Check.dueThrow(INDEX, () -> vats.valve(0, -1, 1, 0, 0));
        Check.dueThrow(INDEX, () -> vats.valve(5, 5, 1, 0, 0));
        Check.dueThrow(INDEX, () -> vats.valve(0, 6, 0, 24, 3));
        Check.dueThrow(ARGUMENT, () -> vats.valve(4, 4, 1, 0, 0));
        Check.dueThrow(ARGUMENT, () -> vats.valve(0, 1, 0, 0, 0));
        Check.dueThrow(ARGUMENT, () -> vats.valve(0, 1, 501, 0, 0));
        Check.dueThrow(ARGUMENT, () -> vats.valve(0, 1, 1, -1, 0));
        Check.dueThrow(ARGUMENT, () -> vats.valve(0, 1, 1, 24, 24));
        Check.dueThrow(ARGUMENT, () -> vats.valve(0, 1, 1, 0, 24));
        Check.dueThrow(ARGUMENT, () -> vats.valve(0, 5, 1, 7, 6));
        Check.due(0, vats.count(2));
        Check.due(0, vats.count(9));
    }

    private static void valveLimit() {
        DyeVats vats = new DyeVats();
        for (int i = 0; i < 8; i++) {
            Check.due(i, vats.valve(0, 5, i + 1, 0, 0));
        }
        long before = vats.digest();
        Check.dueThrow(STATE, () -> vats.valve(0, 5, 9, 0, 0));
        Check.dueThrow(ARGUMENT, () -> vats.valve(0, 0, 9, 0, 0));
        Check.dueThrow(INDEX, () -> vats.valve(0, 6, 9, 0, 0));
        Check.due(before, vats.digest());
        Check.due(7, vats.close(0));
        Check.due(7, vats.valve(0, 5, 9, 0, 0));
        Check.due(9, vats.valveOf(7, 2));
        Check.due(8, vats.valveOf(6, 2));
    }

    private static void close() {
        DyeVats vats = new DyeVats();
        vats.fill(0, 100);
        vats.valve(0, 1, 10, 0, 0);
        vats.valve(0, 2, 20, 0, 1);
        vats.valve(0, 5, 30, 0, 2);
        vats.pass(1);
        Check.due(2, vats.close(1));
        dueValve(vats, 0, 0, 1, 10, 0, 0, 0, 10);
        dueValve(vats, 1, 0, 5, 30, 0, 2, 1, 30);
        Check.due(1, vats.close(1));
        Check.due(0, vats.close(0));
        Check.due(0, vats.count(2));
        vats.undo();
        vats.undo();
        vats.undo();
        dueValve(vats, 1, 0, 2, 20, 0, 1, 1, 20);
        Check.due(3, vats.count(2));
        vats.close(2);
        Check.due(2, vats.valve(3, 4, 1, 0, 0));
        Check.due("a new valve has moved nothing", 0, vats.valveOf(2, 6));
    }

    private static void closeThrows() {
        DyeVats vats = new DyeVats();
        Check.dueThrow(INDEX, () -> vats.close(0));
        vats.valve(0, 1, 1, 0, 0);
        Check.dueThrow(INDEX, () -> vats.close(1));
        Check.dueThrow(INDEX, () -> vats.close(-1));
        Check.dueThrow(INDEX, () -> vats.close(Integer.MAX_VALUE));
        Check.due(1, vats.count(2));
        Check.due(1, vats.count(9));
        for (int i = 1; i < 8; i++) {
            vats.valve(0, 1, 1, 0, 0);
        }
        Check.dueThrow(INDEX, () -> vats.close(8));
        Check.due(7, vats.close(7));
    }

    private static void pipe() {
        DyeVats vats = new DyeVats();
        Check.due(1, vats.pipe(0, 4));
        Check.due(1, vats.pipe(2, 0));
        Check.due(2, vats.count(3));
        Check.due(20, vats.vatOf(0, 8));
        Check.due(1, vats.vatOf(4, 8));
        Check.due(1, vats.vatOf(2, 8));
        Check.due(0, vats.pipe(4, 0));
        Check.due(1, vats.count(3));
        Check.due(4, vats.vatOf(0, 8));
        Check.due(0, vats.vatOf(4, 8));
        Check.due(2, vats.undo());
        Check.due(20, vats.vatOf(0, 8));
        Check.due(2, vats.count(3));
    }

    private static void pipeThrows() {
        DyeVats vats = new DyeVats();
        Check.dueThrow(INDEX, () -> vats.pipe(5, 0));
        Check.dueThrow(INDEX, () -> vats.pipe(0, 5));
        Check.dueThrow(INDEX, () -> vats.pipe(-1, 0));
        Check.dueThrow(INDEX, () -> vats.pipe(0, -1));
        Check.dueThrow(INDEX, () -> vats.pipe(5, 5));
        Check.dueThrow(ARGUMENT, () -> vats.pipe(0, 0));
        Check.dueThrow(ARGUMENT, () -> vats.pipe(4, 4));
        Check.due(0, vats.count(9));
    }

    private static void set() {
        DyeVats vats = new DyeVats();
        vats.fill(0, 100);
        vats.dye(0, 0, 20);
        Check.due(20, vats.set(0));
        Check.due("nothing settles at once", 20, vats.vatOf(0, 2));
        Check.due(0, vats.vatOf(0, 9));
        Check.due(0, vats.set(200));
        Check.due(200, vats.vatOf(0, 9));
        Check.due(200, vats.count(8));
        Check.due(3, vats.undo());
        Check.due(0, vats.count(8));
        vats.pass(1);
        Check.due(0, vats.vatOf(0, 2));
        Check.due(20, vats.vatOf(0, 5));
    }

    private static void setThrows() {
        DyeVats vats = new DyeVats();
        Check.dueThrow(ARGUMENT, () -> vats.set(-1));
        Check.dueThrow(ARGUMENT, () -> vats.set(201));
        Check.due(20, vats.count(8));
        Check.due(0, vats.count(9));
    }
}
