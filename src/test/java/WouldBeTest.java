/** Promises 22 to 27. */
final class WouldBeTest {
    private static final Class<IndexOutOfBoundsException> INDEX = IndexOutOfBoundsException.class;
    private static final Class<IllegalArgumentException> ARGUMENT = IllegalArgumentException.class;

    private WouldBeTest() { }

    static void run() {
        Check.test("22 ifPassed", WouldBeTest::ifPassed);
        Check.test("22 ifPassed throws", WouldBeTest::ifPassedThrows);
        Check.test("23 emptyIn", WouldBeTest::emptyIn);
        Check.test("23 emptyIn's 240 hours", WouldBeTest::emptyInEdges);
        Check.test("23 emptyIn throws", WouldBeTest::emptyInThrows);
        Check.test("24 round", WouldBeTest::round);
        Check.test("24 round, each way by itself", WouldBeTest::roundAlone);
        Check.test("24 round's 60 days", WouldBeTest::roundEdges);
        Check.test("24 the look is dissolved and settled grains, too", WouldBeTest::roundOfGrains);
        Check.test("24 round throws", WouldBeTest::roundThrows);
        Check.test("25 mainValve", WouldBeTest::mainValve);
        Check.test("25 mainValve by what follows from a valve", WouldBeTest::mainValveFeeds);
        Check.test("26 goneShare", WouldBeTest::goneShare);
        Check.test("27 digest of a new object", WouldBeTest::digestOfNew);
        Check.test("27 digest, by the list of the document", WouldBeTest::digest);
        Check.test("22 to 27 change nothing", WouldBeTest::nothingChanged);
    }

    /** Water that goes one vat on a day, from vat 1 to 2 to 3, and from there over 0 to 1 again. */
    private static DyeVats ofThreeDays() {
        DyeVats vats = new DyeVats();
        vats.fill(1, 10);
        vats.valve(3, 0, 10, 0, 0);
        vats.valve(2, 3, 10, 0, 0);
        vats.valve(1, 2, 10, 0, 0);
        vats.valve(0, 1, 10, 0, 0);
        return vats;
    }

    private static DyeVats busy() {
        DyeVats vats = ofThreeDays();
        vats.fill(3, 400);
        vats.dye(3, 0, 333);
        vats.dye(3, 2, 77);
        vats.dye(1, 1, 9);
        vats.dye(4, 1, 9);
        vats.valve(3, 5, 4, 5, 7);
        vats.valve(3, 4, 2, 0, 23);
        vats.pipe(3, 4);
        vats.keep(1);
        vats.pass(31);
        TextsTest.type(vats, "0>1~");
        return vats;
    }

    private static void ifPassed() {
        DyeVats vats = new DyeVats();
        vats.fill(0, 100);
        vats.dye(0, 0, 90);
        vats.dye(0, 1, 10);
        vats.dye(0, 2, 25);
        vats.valve(0, 1, 10, 0, 23);
        int[] due = {50, 10, 5, 10, 63, 0, 5};
        for (int what = 1; what <= 7; what++) {
            Check.due("ifPassed 5 " + what, due[what - 1], vats.ifPassed(5, 0, what));
        }
        Check.due(90, vats.ifPassed(1, 0, 1));
        Check.due(0, vats.ifPassed(240, 0, 1));
        Check.due(100, vats.ifPassed(240, 1, 1));
        Check.due(100, vats.vatOf(0, 1));
        Check.due(0, vats.count(1));
        Check.due(0, vats.valveOf(0, 6));
        vats.pass(5);
        for (int what = 1; what <= 7; what++) {
            Check.due("vatOf " + what, due[what - 1], vats.vatOf(0, what));
        }
    }

    private static void ifPassedThrows() {
        DyeVats vats = new DyeVats();
        Check.dueThrow(INDEX, () -> vats.ifPassed(1, 5, 1));
        Check.dueThrow(INDEX, () -> vats.ifPassed(1, -1, 1));
        Check.dueThrow(INDEX, () -> vats.ifPassed(0, 5, 8));
        Check.dueThrow(ARGUMENT, () -> vats.ifPassed(0, 0, 1));
        Check.dueThrow(ARGUMENT, () -> vats.ifPassed(241, 0, 1));
        Check.dueThrow(ARGUMENT, () -> vats.ifPassed(1, 0, 0));
        Check.dueThrow(ARGUMENT, () -> vats.ifPassed(1, 0, 8));
        Check.due(0, vats.ifPassed(240, 4, 7));
    }

    private static void emptyIn() {
        DyeVats vats = new DyeVats();
        vats.fill(0, 10);
        vats.fill(1, 1);
        vats.valve(0, 1, 3, 2, 23);
        Check.due(6, vats.emptyIn(0));
        Check.due(-1, vats.emptyIn(1));
        Check.due(0, vats.emptyIn(2));
        vats.valve(1, 2, 500, 0, 23);
        Check.due(1, vats.emptyIn(1));
        Check.due("as it is now, also if water comes", 0, vats.emptyIn(2));
        vats.pass(4);
        Check.due(2, vats.emptyIn(0));
        Check.due(0, vats.emptyIn(1));
    }

    private static void emptyInEdges() {
        DyeVats vats = new DyeVats();
        vats.fill(0, 240);
        vats.fill(1, 241);
        vats.valve(0, 5, 1, 0, 23);
        vats.valve(1, 5, 1, 0, 23);
        Check.due(240, vats.emptyIn(0));
        Check.due(-1, vats.emptyIn(1));
        vats.pass(1);
        Check.due(239, vats.emptyIn(0));
        Check.due(240, vats.emptyIn(1));
        DyeVats within = new DyeVats();
        within.fill(0, 5);
        within.valve(0, 1, 5, 0, 23);
        within.valve(1, 0, 5, 0, 23);
        Check.due("empty within the hour alone", -1, within.emptyIn(0));
    }

    private static void emptyInThrows() {
        DyeVats vats = new DyeVats();
        Check.dueThrow(INDEX, () -> vats.emptyIn(5));
        Check.dueThrow(INDEX, () -> vats.emptyIn(-1));
    }

    private static void dueRound(DyeVats vats, int round, int lead) {
        Check.due("the runners' round", round, vats.round(0));
        Check.due("the runners' lead", lead, vats.round(1));
        Check.due("the round by looking back", round, vats.round(2));
        Check.due("the lead by looking back", lead, vats.round(3));
    }

    private static void round() {
        dueRound(new DyeVats(), 1, 0);
        DyeVats vats = ofThreeDays();
        dueRound(vats, 3, 0);
        vats.pass(5);
        dueRound(vats, 3, 0);
        vats.fill(4, 7);
        vats.valve(4, 5, 1, 0, 0);
        dueRound(vats, 3, 7);
        vats.pass(24);
        dueRound(vats, 3, 6);
        DyeVats drain = new DyeVats();
        drain.fill(0, 7);
        drain.valve(0, 5, 1, 0, 0);
        dueRound(drain, 1, 7);
        drain.pass(1);
        dueRound(drain, 1, 6);
    }

    /** No way may lean on what another one, or the call ahead of it, has found. */
    private static void roundAlone() {
        for (int what = 0; what <= 3; what++) {
            DyeVats vats = ofThreeDays();
            vats.fill(4, 7);
            vats.valve(4, 5, 1, 0, 0);
            Check.due("round " + what, what % 2 == 0 ? 3 : 7, vats.round(what));
            vats.fill(4, 70);
            Check.due("round " + what + " beyond the days", -1, vats.round(what));
            vats.undo();
            Check.due("round " + what + " again", what % 2 == 0 ? 3 : 7, vats.round(what));
        }
    }

    private static void roundEdges() {
        for (int water = 56; water <= 58; water++) {
            DyeVats vats = ofThreeDays();
            vats.fill(4, water);
            vats.valve(4, 5, 1, 0, 0);
            dueRound(vats, water <= 57 ? 3 : -1, water <= 57 ? water : -1);
        }
        for (int water = 58; water <= 61; water++) {
            DyeVats vats = new DyeVats();
            vats.fill(3, water);
            vats.valve(3, 5, 1, 0, 0);
            dueRound(vats, water <= 59 ? 1 : -1, water <= 59 ? water : -1);
        }
    }

    private static void roundOfGrains() {
        DyeVats vats = new DyeVats();
        vats.fill(4, 100);
        vats.dye(4, 2, 21);
        dueRound(vats, 1, 1);
        vats.pass(1);
        dueRound(vats, 1, 0);
        DyeVats three = ofThreeDays();
        three.set(200);
        three.dye(1, 1, 7);
        dueRound(three, 3, 0);
        three.set(50);
        dueRound(three, 3, 1);
    }

    private static void roundThrows() {
        DyeVats vats = new DyeVats();
        Check.dueThrow(ARGUMENT, () -> vats.round(4));
        Check.dueThrow(ARGUMENT, () -> vats.round(-1));
    }

    private static void mainValve() {
        DyeVats vats = new DyeVats();
        Check.due(-1, vats.mainValve());
        vats.valve(0, 1, 5, 0, 0);
        Check.due("a valve also if no water goes out", 0, vats.mainValve());
        vats.fill(0, 10);
        vats.valve(0, 5, 3, 0, 0);
        vats.valve(0, 5, 5, 1, 1);
        Check.due(2, vats.mainValve());
        vats.valve(0, 5, 5, 1, 1);
        vats.close(0);
        Check.due("of several the lowest", 1, vats.mainValve());
        DyeVats even = new DyeVats();
        even.fill(0, 10);
        even.fill(1, 10);
        even.valve(1, 5, 1, 0, 0);
        even.valve(0, 5, 3, 0, 0);
        even.valve(1, 5, 3, 0, 0);
        Check.due("of several the lowest", 1, even.mainValve());
        Check.due(3, even.count(2));
    }

    private static void mainValveFeeds() {
        DyeVats vats = new DyeVats();
        vats.fill(0, 100);
        vats.fill(1, 10);
        vats.valve(1, 5, 500, 23, 23);
        vats.valve(2, 5, 20, 10, 10);
        vats.valve(0, 2, 30, 5, 5);
        Check.due(1, vats.mainValve());
        vats.valve(0, 1, 50, 7, 7);
        Check.due(0, vats.mainValve());
        vats.pass(24);
        vats.fill(0, 20);
        Check.due(80, vats.count(5));
        Check.due(1, vats.mainValve());
        DyeVats stopper = new DyeVats();
        stopper.fill(0, 10);
        stopper.valve(0, 1, 10, 0, 0);
        stopper.valve(0, 5, 10, 0, 0);
        Check.due("without the first one, more would go out", 1, stopper.mainValve());
    }

    private static void goneShare() {
        DyeVats vats = new DyeVats();
        Check.dueDouble(0.0, vats.goneShare());
        vats.fill(0, 3);
        vats.set(200);
        vats.dye(0, 0, 3);
        Check.dueDouble(0.0, vats.goneShare());
        vats.valve(0, 5, 1, 0, 0);
        vats.pass(1);
        Check.dueDouble(1.0 / 3.0, vats.goneShare());
        vats.dye(0, 2, 4);
        Check.dueDouble(1.0 / 7.0, vats.goneShare());
        vats.pass(24);
        Check.dueDouble(4.0 / 7.0, vats.goneShare());
        vats.pass(24);
        Check.dueDouble(1.0, vats.goneShare());
        DyeVats grain = new DyeVats();
        grain.fill(0, 3);
        grain.dye(0, 0, 1);
        grain.set(200);
        grain.valve(0, 5, 3, 0, 0);
        Check.dueDouble(0.0, grain.goneShare());
        grain.pass(1);
        Check.dueDouble(1.0, grain.goneShare());
    }

    /** The hash of the document's list, by the face alone. */
    static long digestByFace(DyeVats vats, boolean slot0, boolean slot1, String buffer) {
        long hash = 3461;
        for (int what = 0; what <= 9; what++) {
            hash = 31 * hash + vats.count(what);
        }
        for (int vat = 0; vat < 5; vat++) {
            for (int what = 0; what <= 9; what++) {
                hash = 31 * hash + vats.vatOf(vat, what);
            }
            hash = 31 * hash + vats.emptyIn(vat);
            hash = 31 * hash + vats.ifPassed(24, vat, 1);
            hash = 31 * hash + vats.ifPassed(24, vat, 2);
            hash = 31 * hash + vats.ifPassed(24, vat, 5);
        }
        for (int valve = 0; valve < vats.count(2); valve++) {
            for (int what = 0; what <= 6; what++) {
                hash = 31 * hash + vats.valveOf(valve, what);
            }
        }
        for (int dye = 0; dye < 3; dye++) {
            for (int what = 0; what <= 4; what++) {
                hash = 31 * hash + vats.dyeOf(dye, what);
            }
        }
        for (int what = 0; what <= 3; what++) {
            hash = 31 * hash + vats.round(what);
        }
        hash = 31 * hash + vats.mainValve();
        hash = 31 * hash + Double.doubleToLongBits(vats.goneShare());
        hash = 31 * hash + (slot0 ? 1 : 0);
        hash = 31 * hash + (slot1 ? 1 : 0);
        hash = 31 * hash + buffer.length();
        for (int i = 0; i < buffer.length(); i++) {
            hash = 31 * hash + buffer.charAt(i);
        }
        return hash;
    }

    private static void digestOfNew() {
        DyeVats vats = new DyeVats();
        Check.due(digestByFace(vats, false, false, ""), vats.digest());
        vats.keep(0);
        Check.due(digestByFace(vats, true, false, ""), vats.digest());
        vats.append('~');
        Check.due(digestByFace(vats, true, false, "~"), vats.digest());
    }

    /** Each time a new object: the list takes 150 calls, and what an object answers after its 512th one is free. */
    private static void digest() {
        DyeVats soon = busy();
        Check.due(digestByFace(soon, false, true, "0>1~"), soon.digest());
        DyeVats late = busy();
        late.pass(240);
        Check.due(digestByFace(late, false, true, "0>1~"), late.digest());
        DyeVats back = busy();
        back.pass(240);
        back.goBack(1);
        Check.due(digestByFace(back, false, true, "0>1~"), back.digest());
        DyeVats cleared = busy();
        cleared.clearBuffer();
        Check.due(digestByFace(cleared, false, true, ""), cleared.digest());
    }

    private static void nothingChanged() {
        DyeVats vats = busy();
        long before = vats.digest();
        for (int i = 0; i < 4; i++) {
            vats.ifPassed(240, i, 1);
            vats.emptyIn(i);
            vats.round(i);
            vats.mainValve();
            vats.goneShare();
            vats.firstError();
            Check.due(before, vats.digest());
        }
    }
}
