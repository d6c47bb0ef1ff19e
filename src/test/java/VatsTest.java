/** Promises 1 to 5. */
final class VatsTest {
    private static final Class<IndexOutOfBoundsException> INDEX = IndexOutOfBoundsException.class;
    private static final Class<IllegalArgumentException> ARGUMENT = IllegalArgumentException.class;
    private static final Class<IllegalStateException> STATE = IllegalStateException.class;

    private VatsTest() { }

    static void run() {
        Check.test("1 a new object's vats and dyes", VatsTest::newVats);
        Check.test("1 a new object's numbers, slots and buffer", VatsTest::newNumbers);
        Check.test("2 fill", VatsTest::fill);
        Check.test("2 fill refused", VatsTest::fillRefused);
        Check.test("2 fill throws", VatsTest::fillThrows);
        Check.test("3 dye", VatsTest::dye);
        Check.test("3 dye refused", VatsTest::dyeRefused);
        Check.test("3 dye throws", VatsTest::dyeThrows);
        Check.test("3 dye's limit of grains", VatsTest::dyeLimit);
        Check.test("4 stir", VatsTest::stir);
        Check.test("4 stir with more dissolved than can be held", VatsTest::stirBeyond);
        Check.test("4 stir throws, and is undoable", VatsTest::stirThrows);
        Check.test("5 capacity", VatsTest::capacity);
        Check.test("5 capacity throws", VatsTest::capacityThrows);
    }

    private static void newVats() {
        DyeVats vats = new DyeVats();
        for (int vat = 0; vat < 5; vat++) {
            for (int what = 0; what <= 9; what++) {
                Check.due(what == 0 ? 1000 : 0, vats.vatOf(vat, what));
            }
            Check.due(0, vats.emptyIn(vat));
        }
        for (int dye = 0; dye < 3; dye++) {
            for (int what = 0; what <= 4; what++) {
                Check.due(what == 4 ? -1 : 0, vats.dyeOf(dye, what));
            }
        }
    }

    private static void newNumbers() {
        DyeVats vats = new DyeVats();
        for (int what = 0; what <= 9; what++) {
            Check.due(what == 8 ? 20 : 0, vats.count(what));
        }
        Check.dueThrow(INDEX, () -> vats.valveOf(0, 0));
        Check.dueThrow(STATE, () -> vats.goBack(0));
        Check.dueThrow(STATE, () -> vats.goBack(1));
        Check.dueThrow(STATE, () -> vats.undo());
        Check.due(0, vats.firstError());
        Check.due(0, vats.clearBuffer());
        Check.due(-1, vats.mainValve());
        Check.dueDouble(0.0, vats.goneShare());
    }

    private static void fill() {
        DyeVats vats = new DyeVats();
        Check.due(1, vats.fill(4, 1));
        Check.due(1000, vats.fill(4, 999));
        Check.due(30, vats.fill(0, 30));
        Check.due(1000, vats.vatOf(4, 1));
        Check.due(1030, vats.count(6));
        Check.due(1030, vats.count(4));
        Check.due(1000, vats.capacity(0, 2000));
        Check.due(2000, vats.fill(0, 1970));
        Check.due(4, vats.undo());
        Check.due(30, vats.vatOf(0, 1));
        Check.due(1030, vats.count(6));
    }

    private static void fillRefused() {
        DyeVats vats = new DyeVats();
        Check.due(-1, vats.fill(0, 1001));
        Check.due(-1, vats.fill(0, 2000));
        Check.due(1000, vats.fill(0, 1000));
        Check.due(-1, vats.fill(0, 1));
        Check.due(3, vats.count(7));
        Check.due(1000, vats.count(6));
        Check.due(1000, vats.vatOf(0, 1));
        Check.due(4, vats.count(9));
        Check.due(3, vats.undo());
        Check.due(2, vats.count(7));
        Check.due(1000, vats.vatOf(0, 1));
    }

    private static void fillThrows() {
        DyeVats vats = new DyeVats();
        Check.dueThrow(INDEX, () -> vats.fill(5, 1));
        Check.dueThrow(INDEX, () -> vats.fill(-1, 1));
        Check.dueThrow(INDEX, () -> vats.fill(5, 0));
        Check.dueThrow(INDEX, () -> vats.fill(Integer.MIN_VALUE, Integer.MAX_VALUE));
        Check.dueThrow(ARGUMENT, () -> vats.fill(0, 0));
        Check.dueThrow(ARGUMENT, () -> vats.fill(0, -1));
        Check.dueThrow(ARGUMENT, () -> vats.fill(4, 2001));
        Check.dueThrow(ARGUMENT, () -> vats.fill(4, Integer.MIN_VALUE));
        Check.due(0, vats.count(9));
        Check.due(0, vats.count(7));
    }

    private static void dye() {
        DyeVats vats = new DyeVats();
        vats.fill(3, 1);
        Check.due(999, vats.dye(3, 2, 999));
        Check.due(1000, vats.dye(3, 2, 1));
        Check.due(7, vats.dye(3, 0, 7));
        Check.due(1000, vats.vatOf(3, 4));
        Check.due(7, vats.vatOf(3, 2));
        Check.due(0, vats.vatOf(3, 7));
        Check.due(1000, vats.dyeOf(2, 0));
        Check.due(3, vats.undo());
        Check.due(0, vats.vatOf(3, 2));
        Check.due(0, vats.dyeOf(0, 0));
    }

    private static void dyeRefused() {
        DyeVats vats = new DyeVats();
        vats.fill(0, 10);
        Check.due(-1, vats.dye(1, 0, 5));
        Check.due(1, vats.count(7));
        Check.due(0, vats.dyeOf(0, 0));
        Check.due(0, vats.vatOf(1, 2));
        Check.due(2, vats.count(9));
        Check.due(1, vats.undo());
        Check.due(0, vats.count(7));
    }

    private static void dyeThrows() {
        DyeVats vats = new DyeVats();
        vats.fill(0, 10);
        Check.dueThrow(INDEX, () -> vats.dye(5, 0, 1));
        Check.dueThrow(INDEX, () -> vats.dye(-1, 0, 1));
        Check.dueThrow(INDEX, () -> vats.dye(0, 3, 1));
        Check.dueThrow(INDEX, () -> vats.dye(0, -1, 0));
        Check.dueThrow(INDEX, () -> vats.dye(5, 0, 1000));
        Check.dueThrow(ARGUMENT, () -> vats.dye(0, 0, 0));
        Check.dueThrow(ARGUMENT, () -> vats.dye(0, 0, 1000));
        Check.dueThrow(ARGUMENT, () -> vats.dye(0, 0, Integer.MAX_VALUE));
        Check.due(1, vats.count(9));
        Check.due(0, vats.dyeOf(0, 0));
    }

    private static void dyeLimit() {
        DyeVats vats = new DyeVats();
        vats.fill(0, 10);
        for (int i = 1; i <= 100; i++) {
            Check.due(i * 999, vats.dye(0, 1, 999));
        }
        Check.dueThrow(STATE, () -> vats.dye(0, 1, 100));
        Check.dueThrow(STATE, () -> vats.dye(4, 1, 100));
        Check.due(99999, vats.dye(0, 1, 99));
        long before = vats.digest();
        Check.dueThrow(STATE, () -> vats.dye(0, 1, 1));
        Check.dueThrow(STATE, () -> vats.dye(4, 1, 1));
        Check.dueThrow(ARGUMENT, () -> vats.dye(4, 1, 1000));
        Check.dueThrow(INDEX, () -> vats.dye(5, 1, 1));
        Check.due(before, vats.digest());
        Check.due(1, vats.dye(0, 0, 1));
        Check.due(-1, vats.dye(4, 2, 1));
        vats.undo();
        vats.undo();
        vats.undo();
        Check.due(99900, vats.dyeOf(1, 0));
        Check.due(99901, vats.dye(0, 1, 1));
    }

    private static void stir() {
        DyeVats vats = new DyeVats();
        vats.fill(0, 100);
        vats.dye(0, 0, 50);
        vats.dye(0, 1, 25);
        vats.dye(0, 2, 20);
        vats.pass(1);
        Check.due(30, vats.vatOf(0, 5));
        Check.due(5, vats.vatOf(0, 6));
        Check.due(0, vats.vatOf(0, 7));
        Check.due(0, vats.stir(0));
        vats.set(40);
        Check.due(25, vats.stir(0));
        Check.due(40, vats.vatOf(0, 2));
        Check.due(25, vats.vatOf(0, 3));
        Check.due(20, vats.vatOf(0, 4));
        Check.due(10, vats.vatOf(0, 5));
        Check.due(0, vats.vatOf(0, 6));
        Check.due(0, vats.stir(1));
    }

    private static void stirBeyond() {
        DyeVats vats = new DyeVats();
        vats.fill(0, 100);
        vats.dye(0, 0, 30);
        vats.dye(0, 1, 10);
        vats.pass(1);
        vats.dye(0, 0, 30);
        vats.set(15);
        Check.due(0, vats.stir(0));
        Check.due(50, vats.vatOf(0, 2));
        Check.due(10, vats.vatOf(0, 5));
    }

    private static void stirThrows() {
        DyeVats vats = new DyeVats();
        Check.dueThrow(INDEX, () -> vats.stir(5));
        Check.dueThrow(INDEX, () -> vats.stir(-1));
        Check.due(0, vats.count(9));
        vats.fill(4, 100);
        vats.dye(4, 2, 80);
        vats.pass(1);
        vats.set(50);
        Check.due(30, vats.stir(4));
        Check.due(5, vats.count(9));
        Check.due(4, vats.undo());
        Check.due(20, vats.vatOf(4, 4));
        Check.due(60, vats.vatOf(4, 7));
    }

    private static void capacity() {
        DyeVats vats = new DyeVats();
        Check.due(1000, vats.capacity(2, 1));
        Check.due(1, vats.capacity(2, 2000));
        Check.due(2000, vats.vatOf(2, 0));
        vats.fill(2, 300);
        Check.due(-1, vats.capacity(2, 299));
        Check.due(1, vats.count(7));
        Check.due(2000, vats.vatOf(2, 0));
        Check.due(2000, vats.capacity(2, 300));
        Check.due(-1, vats.fill(2, 1));
        Check.due(2, vats.count(7));
        Check.due(6, vats.count(9));
        vats.undo();
        vats.undo();
        Check.due(2000, vats.vatOf(2, 0));
        Check.due(3, vats.undo());
        Check.due(0, vats.count(7));
    }

    private static void capacityThrows() {
        DyeVats vats = new DyeVats();
        Check.dueThrow(INDEX, () -> vats.capacity(5, 1));
        Check.dueThrow(INDEX, () -> vats.capacity(-1, 0));
        Check.dueThrow(ARGUMENT, () -> vats.capacity(0, 0));
        Check.dueThrow(ARGUMENT, () -> vats.capacity(0, 2001));
        Check.due(0, vats.count(9));
        Check.due(1000, vats.vatOf(0, 0));
    }
}
