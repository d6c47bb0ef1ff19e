/** Promises 18 to 21. */
final class LooksTest {
    private static final Class<IndexOutOfBoundsException> INDEX = IndexOutOfBoundsException.class;
    private static final Class<IllegalArgumentException> ARGUMENT = IllegalArgumentException.class;

    private LooksTest() { }

    static void run() {
        Check.test("18 vatOf", LooksTest::vatOf);
        Check.test("18 vatOf throws", LooksTest::vatOfThrows);
        Check.test("19 valveOf", LooksTest::valveOf);
        Check.test("19 valveOf throws", LooksTest::valveOfThrows);
        Check.test("20 dyeOf", LooksTest::dyeOf);
        Check.test("20 dyeOf's greatest share", LooksTest::greatestShare);
        Check.test("20 dyeOf throws", LooksTest::dyeOfThrows);
        Check.test("21 count", LooksTest::count);
        Check.test("21 count throws", LooksTest::countThrows);
    }

    private static void vatOf() {
        DyeVats vats = new DyeVats();
        vats.capacity(3, 99);
        vats.fill(3, 52);
        vats.dye(3, 0, 3);
        vats.dye(3, 1, 12);
        vats.dye(3, 2, 18);
        vats.pass(1);
        vats.dye(3, 1, 4);
        vats.pipe(3, 0);
        vats.pipe(3, 4);
        int[] due = {99, 52, 3, 14, 10, 0, 2, 8, 17, 10};
        for (int what = 0; what < due.length; what++) {
            Check.due("vatOf " + what, due[what], vats.vatOf(3, what));
        }
        Check.due(8, vats.vatOf(4, 8));
        Check.due(0, vats.vatOf(4, 9));
        vats.set(7);
        Check.due("364 by 100", 3, vats.vatOf(3, 9));
    }

    private static void vatOfThrows() {
        DyeVats vats = new DyeVats();
        Check.dueThrow(INDEX, () -> vats.vatOf(5, 0));
        Check.dueThrow(INDEX, () -> vats.vatOf(-1, 0));
        Check.dueThrow(INDEX, () -> vats.vatOf(5, 10));
        Check.dueThrow(ARGUMENT, () -> vats.vatOf(0, 10));
        Check.dueThrow(ARGUMENT, () -> vats.vatOf(4, -1));
    }

    private static void valveOf() {
        DyeVats vats = new DyeVats();
        vats.fill(1, 20);
        vats.valve(1, 3, 9, 2, 3);
        ValvesTest.dueValve(vats, 0, 1, 3, 9, 2, 3, 0, 0);
        vats.pass(2);
        ValvesTest.dueValve(vats, 0, 1, 3, 9, 2, 3, 1, 0);
        vats.pass(1);
        ValvesTest.dueValve(vats, 0, 1, 3, 9, 2, 3, 1, 9);
        vats.pass(1);
        ValvesTest.dueValve(vats, 0, 1, 3, 9, 2, 3, 0, 18);
        vats.pass(24);
        ValvesTest.dueValve(vats, 0, 1, 3, 9, 2, 3, 0, 20);
    }

    private static void valveOfThrows() {
        DyeVats vats = new DyeVats();
        Check.dueThrow(INDEX, () -> vats.valveOf(0, 0));
        vats.valve(1, 3, 9, 2, 3);
        Check.dueThrow(INDEX, () -> vats.valveOf(1, 0));
        Check.dueThrow(INDEX, () -> vats.valveOf(-1, 0));
        Check.dueThrow(INDEX, () -> vats.valveOf(1, 7));
        Check.dueThrow(ARGUMENT, () -> vats.valveOf(0, 7));
        Check.dueThrow(ARGUMENT, () -> vats.valveOf(0, -1));
    }

    private static void dyeOf() {
        DyeVats vats = new DyeVats();
        vats.fill(0, 100);
        vats.fill(4, 100);
        vats.dye(0, 2, 30);
        vats.dye(4, 2, 15);
        vats.dye(4, 1, 1);
        vats.valve(4, 5, 20, 0, 0);
        vats.pass(1);
        int[] due = {45, 32, 10, 3, 0};
        for (int what = 0; what < due.length; what++) {
            Check.due("dyeOf " + what, due[what], vats.dyeOf(2, what));
        }
        Check.due(1, vats.dyeOf(1, 0));
        Check.due(1, vats.dyeOf(1, 1));
        Check.due(0, vats.dyeOf(1, 3));
        Check.due(4, vats.dyeOf(1, 4));
        Check.due(0, vats.dyeOf(0, 0));
    }

    private static void greatestShare() {
        DyeVats vats = new DyeVats();
        Check.due(-1, vats.dyeOf(0, 4));
        vats.fill(3, 1000);
        Check.due("a share of 0 is one", 3, vats.dyeOf(0, 4));
        vats.fill(2, 30);
        Check.due("the lowest of several", 2, vats.dyeOf(0, 4));
        vats.dye(3, 0, 1);
        Check.due(3, vats.dyeOf(0, 4));
        vats.dye(3, 0, 332);
        vats.dye(2, 0, 10);
        Check.due("10 by 30 is more than 333 by 1000", 2, vats.dyeOf(0, 4));
        vats.dye(3, 0, 1);
        Check.due("334 by 1000 is more than 10 by 30", 3, vats.dyeOf(0, 4));
        vats.fill(1, 15);
        vats.dye(1, 0, 6);
        vats.fill(4, 5);
        vats.dye(4, 0, 2);
        Check.due("as fractions 6 by 15 is 2 by 5", 1, vats.dyeOf(0, 4));
        Check.due(1, vats.dyeOf(1, 4));
        vats.set(0);
        vats.pass(1);
        Check.due("what has settled does not count", 1, vats.dyeOf(0, 4));
        vats.capacity(0, 2000);
        vats.fill(0, 2000);
        for (int i = 0; i < 100; i++) {
            vats.dye(0, 2, 999);
        }
        vats.dye(1, 2, 99);
        Check.due("large numbers", 0, vats.dyeOf(2, 4));
    }

    private static void dyeOfThrows() {
        DyeVats vats = new DyeVats();
        Check.dueThrow(INDEX, () -> vats.dyeOf(3, 0));
        Check.dueThrow(INDEX, () -> vats.dyeOf(-1, 0));
        Check.dueThrow(INDEX, () -> vats.dyeOf(3, 5));
        Check.dueThrow(ARGUMENT, () -> vats.dyeOf(0, 5));
        Check.dueThrow(ARGUMENT, () -> vats.dyeOf(2, -1));
    }

    private static void count() {
        DyeVats vats = new DyeVats();
        vats.fill(0, 100);
        vats.fill(1, 50);
        vats.fill(1, 951);
        vats.dye(2, 0, 1);
        vats.capacity(0, 99);
        vats.valve(0, 5, 3, 1, 23);
        vats.valve(1, 2, 3, 1, 23);
        vats.pipe(3, 4);
        vats.pipe(2, 4);
        vats.pipe(2, 3);
        vats.set(21);
        vats.pass(26);
        vats.undo();
        vats.pass(27);
        int[] due = {3, 27, 2, 3, 75, 75, 150, 3, 21, 6};
        for (int what = 0; what < due.length; what++) {
            Check.due("count " + what, due[what], vats.count(what));
        }
    }

    private static void countThrows() {
        DyeVats vats = new DyeVats();
        Check.dueThrow(ARGUMENT, () -> vats.count(10));
        Check.dueThrow(ARGUMENT, () -> vats.count(-1));
    }
}
