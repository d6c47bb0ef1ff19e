/** Promise 10, and what the terms say of an hour. */
final class HoursTest {
    private HoursTest() { }

    static void run() {
        Check.test("10 a valve moves its rate, the water that is there, or the room", HoursTest::amounts);
        Check.test("10 dye goes by shares, rounded down", HoursTest::shares);
        Check.test("10 water and dye go out", HoursTest::out);
        Check.test("10 valves by ascending numbers", HoursTest::valveOrder);
        Check.test("10 valves are open from their first hour to their last", HoursTest::openHours);
        Check.test("10 pipes level by halves", HoursTest::pipes);
        Check.test("10 pipes in their order, with room and dye", HoursTest::pipeOrder);
        Check.test("10 valves, then pipes, then settling", HoursTest::steps);
        Check.test("10 what settles", HoursTest::settling);
        Check.test("10 pass counts hours, and is undoable as one call", HoursTest::counted);
        Check.test("10 pass throws", HoursTest::passThrows);
    }

    private static void amounts() {
        DyeVats vats = new DyeVats();
        vats.fill(0, 100);
        vats.fill(1, 950);
        vats.valve(0, 1, 80, 0, 0);
        vats.valve(0, 2, 30, 0, 0);
        vats.valve(0, 3, 500, 0, 0);
        vats.valve(0, 5, 500, 0, 0);
        Check.due(0, vats.pass(1));
        Check.due(50, vats.valveOf(0, 6));
        Check.due(30, vats.valveOf(1, 6));
        Check.due(20, vats.valveOf(2, 6));
        Check.due(0, vats.valveOf(3, 6));
        Check.due(0, vats.vatOf(0, 1));
        Check.due(1000, vats.vatOf(1, 1));
        Check.due(30, vats.vatOf(2, 1));
        Check.due(20, vats.vatOf(3, 1));
    }

    private static void shares() {
        DyeVats vats = new DyeVats();
        vats.set(200);
        vats.fill(0, 7);
        vats.dye(0, 0, 10);
        vats.dye(0, 1, 2);
        vats.dye(0, 2, 7);
        vats.valve(0, 1, 3, 0, 0);
        vats.pass(1);
        Check.due(6, vats.vatOf(0, 2));
        Check.due(4, vats.vatOf(1, 2));
        Check.due(2, vats.vatOf(0, 3));
        Check.due(0, vats.vatOf(1, 3));
        Check.due(4, vats.vatOf(0, 4));
        Check.due(3, vats.vatOf(1, 4));
        vats.close(0);
        vats.valve(0, 1, 500, 1, 1);
        vats.pass(1);
        Check.due("all water takes all dye", 0, vats.vatOf(0, 2) + vats.vatOf(0, 3) + vats.vatOf(0, 4));
        Check.due(10, vats.vatOf(1, 2));
    }

    private static void out() {
        DyeVats vats = new DyeVats();
        vats.fill(2, 100);
        vats.dye(2, 1, 20);
        vats.valve(2, 5, 25, 0, 1);
        Check.due(25, vats.pass(1));
        Check.due(5, vats.dyeOf(1, 3));
        Check.due(15, vats.vatOf(2, 3));
        Check.due(25, vats.pass(1));
        Check.due(50, vats.count(5));
        Check.due(10, vats.dyeOf(1, 3));
        Check.due(0, vats.pass(22));
        Check.due(50, vats.pass(240));
        Check.due(100, vats.count(5));
        Check.due(0, vats.count(4));
        Check.due(20, vats.dyeOf(1, 3));
        Check.due(100, vats.valveOf(0, 6));
    }

    private static void valveOrder() {
        DyeVats there = new DyeVats();
        there.fill(0, 10);
        there.valve(0, 1, 10, 0, 0);
        there.valve(1, 2, 10, 0, 0);
        there.pass(1);
        Check.due(10, there.vatOf(2, 1));
        DyeVats back = new DyeVats();
        back.fill(0, 10);
        back.valve(1, 2, 10, 0, 0);
        back.valve(0, 1, 10, 0, 0);
        back.pass(1);
        Check.due(10, back.vatOf(1, 1));
    }

    private static void openHours() {
        DyeVats vats = new DyeVats();
        vats.fill(0, 100);
        vats.valve(0, 5, 1, 1, 2);
        int[] due = {0, 1, 1, 0, 0};
        for (int hour = 0; hour < due.length; hour++) {
            Check.due(due[hour], vats.valveOf(0, 5));
            Check.due(due[hour], vats.pass(1));
        }
        Check.due("the hours 5 to 23 and 0", 0, vats.pass(20));
        Check.due(1, vats.count(0));
        Check.due(2, vats.pass(2));
        vats.valve(0, 5, 10, 23, 23);
        Check.due(0, vats.pass(20));
        Check.due(23, vats.count(0));
        Check.due(10, vats.pass(1));
        Check.due(0, vats.count(0));
    }

    private static void pipes() {
        DyeVats vats = new DyeVats();
        vats.fill(0, 10);
        vats.fill(1, 3);
        vats.fill(2, 3);
        vats.fill(3, 10);
        vats.pipe(0, 1);
        vats.pipe(3, 2);
        vats.pass(1);
        Check.due(7, vats.vatOf(0, 1));
        Check.due(6, vats.vatOf(1, 1));
        Check.due(6, vats.vatOf(2, 1));
        Check.due(7, vats.vatOf(3, 1));
        vats.pass(10);
        Check.due("half of 1 is 0", 7, vats.vatOf(0, 1));
    }

    private static void pipeOrder() {
        DyeVats vats = new DyeVats();
        vats.set(200);
        vats.fill(0, 100);
        vats.dye(0, 0, 20);
        vats.pipe(2, 1);
        vats.pipe(2, 0);
        vats.pipe(1, 0);
        vats.pass(1);
        Check.due(25, vats.vatOf(0, 1));
        Check.due(38, vats.vatOf(1, 1));
        Check.due(37, vats.vatOf(2, 1));
        Check.due(5, vats.vatOf(0, 2));
        Check.due(8, vats.vatOf(1, 2));
        Check.due(7, vats.vatOf(2, 2));
        DyeVats small = new DyeVats();
        small.fill(0, 100);
        small.capacity(4, 5);
        small.pipe(0, 4);
        small.pass(1);
        Check.due(95, small.vatOf(0, 1));
        Check.due(5, small.vatOf(4, 1));
    }

    private static void steps() {
        DyeVats vats = new DyeVats();
        vats.fill(0, 100);
        vats.dye(0, 0, 100);
        vats.valve(0, 1, 20, 0, 0);
        vats.pipe(1, 2);
        vats.pass(1);
        Check.due(80, vats.vatOf(0, 1));
        Check.due(10, vats.vatOf(1, 1));
        Check.due(10, vats.vatOf(2, 1));
        Check.due(16, vats.vatOf(0, 2));
        Check.due(64, vats.vatOf(0, 5));
        Check.due(2, vats.vatOf(1, 2));
        Check.due(8, vats.vatOf(1, 5));
        Check.due(2, vats.vatOf(2, 2));
        Check.due(8, vats.vatOf(2, 5));
    }

    private static void settling() {
        DyeVats vats = new DyeVats();
        vats.fill(0, 104);
        vats.dye(0, 0, 20);
        vats.dye(0, 1, 21);
        vats.dye(0, 2, 999);
        vats.pass(1);
        Check.due(20, vats.vatOf(0, 2));
        Check.due(0, vats.vatOf(0, 5));
        Check.due(20, vats.vatOf(0, 3));
        Check.due(1, vats.vatOf(0, 6));
        Check.due(20, vats.vatOf(0, 4));
        Check.due(979, vats.vatOf(0, 7));
        vats.dye(0, 0, 3);
        vats.pass(1);
        Check.due(20, vats.vatOf(0, 2));
        Check.due(3, vats.vatOf(0, 5));
        vats.valve(0, 1, 500, 2, 2);
        vats.pass(1);
        Check.due("what has settled stays", 3, vats.vatOf(0, 5));
        Check.due(0, vats.vatOf(0, 2));
    }

    private static void counted() {
        DyeVats vats = new DyeVats();
        vats.fill(0, 1000);
        vats.valve(0, 5, 1, 0, 23);
        Check.due(240, vats.pass(240));
        Check.due(240, vats.count(1));
        Check.due(0, vats.count(0));
        Check.due(25, vats.pass(25));
        Check.due(1, vats.count(0));
        Check.due(265, vats.count(1));
        Check.due(3, vats.undo());
        Check.due(240, vats.count(1));
        Check.due(240, vats.count(5));
        Check.due(760, vats.vatOf(0, 1));
        Check.due(240, vats.valveOf(0, 6));
    }

    private static void passThrows() {
        DyeVats vats = new DyeVats();
        Check.dueThrow(IllegalArgumentException.class, () -> vats.pass(0));
        Check.dueThrow(IllegalArgumentException.class, () -> vats.pass(241));
        Check.dueThrow(IllegalArgumentException.class, () -> vats.pass(Integer.MAX_VALUE));
        Check.due(0, vats.count(9));
        vats.fill(0, 1);
        for (int i = 0; i < 416; i++) {
            vats.pass(240);
        }
        Check.dueThrow(IllegalStateException.class, () -> vats.pass(160));
        vats.pass(159);
        Check.due(99999, vats.count(1));
        Check.dueThrow(IllegalStateException.class, () -> vats.pass(1));
        Check.dueThrow(IllegalArgumentException.class, () -> vats.pass(241));
        Check.due(99999, vats.count(1));
        Check.due("the limit does not matter for what would be", 1, vats.ifPassed(240, 0, 1));
        Check.due(-1, vats.emptyIn(0));
        Check.due(1, vats.round(0));
        Check.due(1, vats.round(2));
        vats.undo();
        Check.due(99840, vats.count(1));
        vats.pass(1);
    }
}
