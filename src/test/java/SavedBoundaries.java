/** The boundary cases of promises 15 to 17. */
final class SavedBoundaries extends Boundary {
    private SavedBoundaries() { }

    static void run() {
        keepSlots();
        keepHours();
        keepWhat();
        goBackSlots();
        goBackWhat();
        goBackUndone();
        undoNone();
        undoSix();
        undoWhat();
    }

    private static void keepSlots() {
        holds("15 keep: slot 0 is the first", vats -> {
            vats.keep(0);
            Check.due(0, vats.goBack(0));
            Check.dueThrow(STATE, () -> vats.goBack(1));
        });
        holds("15 keep: slot 1 is the last", vats -> {
            vats.keep(1);
            Check.due(0, vats.goBack(1));
            Check.dueThrow(STATE, () -> vats.goBack(0));
        });
        throwing("15 keep: slot -1 is none", ARGUMENT, vats -> vats.keep(-1));
        throwing("15 keep: slot 2 is none", ARGUMENT, vats -> vats.keep(2));
        throwing("15 keep: slot 2 is none, with empty slots", ARGUMENT, DyeVats::new, vats -> vats.keep(2));
        throwing("15 keep: slot -1 is none, with empty slots", ARGUMENT, DyeVats::new, vats -> vats.keep(-1));
        throwing("15 keep: the least integer is no slot", ARGUMENT, vats -> vats.keep(MIN));
        throwing("15 keep: the greatest integer is no slot", ARGUMENT, vats -> vats.keep(MAX));
        notUndoable("15 keep: slot 0", vats -> vats.keep(0));
        notUndoable("15 keep: slot 1", vats -> vats.keep(1));
    }

    private static void keepHours() {
        answers("15 keep: the hour 0 of a new object", 0, DyeVats::new, vats -> vats.keep(0));
        answers("15 keep: the hour 1", 1, of(vats -> vats.pass(1)), vats -> vats.keep(0));
        answers("15 keep: the hour 23", 23, of(vats -> vats.pass(23)), vats -> vats.keep(1));
        answers("15 keep: the hour 0 again behind the hour 23", 0, of(vats -> vats.pass(24)), vats -> vats.keep(1));
        answers("15 keep: the hour 1 of the next day", 1, of(vats -> vats.pass(25)), vats -> vats.keep(0));
    }

    private static void keepWhat() {
        holds("15 keep: it takes the place of the snapshot in the slot", vats -> {
            vats.fill(0, 1);
            vats.keep(0);
            vats.fill(0, 1);
            vats.keep(0);
            vats.fill(0, 1);
            vats.goBack(0);
            Check.due(2, vats.vatOf(0, 1));
        });
        holds("15 keep: the snapshot in the other slot stays", vats -> {
            vats.fill(0, 1);
            vats.keep(0);
            vats.fill(0, 1);
            vats.keep(1);
            vats.goBack(0);
            Check.due(1, vats.vatOf(0, 1));
            vats.goBack(1);
            Check.due(2, vats.vatOf(0, 1));
        });
        holds("15 keep: a snapshot stays as it was while the vats go on", vats -> {
            vats.fill(0, 100);
            vats.valve(0, 5, 1, 0, 23);
            vats.keep(1);
            vats.pass(30);
            vats.close(0);
            vats.capacity(0, 80);
            vats.goBack(1);
            Check.due(100, vats.vatOf(0, 1));
            Check.due(1, vats.count(2));
            Check.due(0, vats.valveOf(0, 6));
            Check.due(1000, vats.vatOf(0, 0));
        });
        Check.test("15 keep: nothing but the slot changes", () -> {
            DyeVats vats = busy();
            DyeVats twin = busy();
            vats.keep(0);
            Check.due(twin.digest(), vats.digest());
        });
        holds("15 keep: the digest tells which slot is taken", vats -> {
            Check.due(WouldBeTest.digestByFace(vats, false, false, ""), vats.digest());
            vats.keep(1);
            Check.due(WouldBeTest.digestByFace(vats, false, true, ""), vats.digest());
            vats.keep(0);
            Check.due(WouldBeTest.digestByFace(vats, true, true, ""), vats.digest());
        });
    }

    private static void goBackSlots() {
        throwing("16 goBack: slot -1 is none", ARGUMENT, vats -> vats.goBack(-1));
        throwing("16 goBack: slot 2 is none", ARGUMENT, vats -> vats.goBack(2));
        throwing("16 goBack: the least integer is no slot", ARGUMENT, vats -> vats.goBack(MIN));
        throwing("16 goBack: the greatest integer is no slot", ARGUMENT, vats -> vats.goBack(MAX));
        throwing("16 goBack: slot -1 is none, ahead of no snapshot in it", ARGUMENT, DyeVats::new, vats -> vats.goBack(-1));
        throwing("16 goBack: slot 2 is none, ahead of no snapshot in it", ARGUMENT, DyeVats::new, vats -> vats.goBack(2));
        throwing("16 goBack: no snapshot in slot 0", STATE, DyeVats::new, vats -> vats.goBack(0));
        throwing("16 goBack: no snapshot in slot 1", STATE, DyeVats::new, vats -> vats.goBack(1));
        throwing("16 goBack: no snapshot in slot 0, but in slot 1", STATE, of(vats -> {
            vats.fill(0, 1);
            vats.keep(1);
            vats.fill(0, 1);
        }), vats -> vats.goBack(0));
        throwing("16 goBack: no snapshot in slot 1, but in slot 0", STATE, of(vats -> {
            vats.fill(0, 1);
            vats.keep(0);
            vats.fill(0, 1);
        }), vats -> vats.goBack(1));
    }

    private static DyeVats keptAt(int hours) {
        DyeVats vats = new DyeVats();
        if (hours > 0) {
            vats.pass(hours);
        }
        vats.keep(1);
        vats.pass(7);
        return vats;
    }

    private static void goBackWhat() {
        answers("16 goBack: to the hour 0", 0, () -> keptAt(0), vats -> vats.goBack(1));
        answers("16 goBack: to the hour 23", 23, () -> keptAt(23), vats -> vats.goBack(1));
        answers("16 goBack: to the hour 0 of the next day", 0, () -> keptAt(24), vats -> vats.goBack(1));
        Check.test("16 goBack: all of the snapshot, also what is counted", () -> {
            DyeVats vats = new DyeVats();
            vats.fill(0, 100);
            vats.fill(0, 2000);
            vats.dye(0, 0, 60);
            vats.valve(0, 5, 7, 0, 23);
            vats.valve(0, 1, 2, 1, 2);
            vats.pipe(0, 1);
            vats.set(33);
            vats.pass(27);
            vats.keep(0);
            vats.keep(1);
            long kept = WouldBeTest.digestByFace(vats, true, true, "");
            vats.fill(4, 5);
            vats.fill(4, 2000);
            vats.dye(4, 1, 5);
            vats.close(0);
            vats.pipe(0, 1);
            vats.pipe(2, 3);
            vats.set(1);
            vats.capacity(2, 2);
            vats.pass(30);
            Check.due(3, vats.goBack(0));
            Check.due("six saved states then and now", kept, vats.digest());
        });
        Check.test("16 goBack: the snapshot stays", () -> {
            DyeVats vats = keptAt(5);
            vats.goBack(1);
            vats.pass(9);
            Check.due(5, vats.goBack(1));
            Check.due(5, vats.count(1));
        });
        Check.test("16 goBack: what is done then does not change the snapshot", () -> {
            DyeVats vats = keptAt(5);
            vats.goBack(1);
            vats.fill(0, 9);
            vats.capacity(1, 9);
            vats.goBack(1);
            Check.due(0, vats.vatOf(0, 1));
            Check.due(1000, vats.vatOf(1, 0));
        });
        Check.test("16 goBack: the snapshot in the other slot stays", () -> {
            DyeVats vats = keptAt(5);
            vats.keep(0);
            vats.goBack(1);
            Check.due(12, vats.goBack(0));
        });
        Check.test("16 goBack: a slot that was filled since stays so", () -> {
            DyeVats vats = keptAt(5);
            vats.keep(0);
            vats.pass(1);
            vats.goBack(1);
            Check.due(12, vats.goBack(0));
        });
        Check.test("16 goBack: the buffer stays", () -> {
            DyeVats vats = busy();
            vats.append('!');
            vats.goBack(0);
            Check.due(9, vats.firstError());
            Check.due(10, vats.clearBuffer());
        });
    }

    private static void goBackUndone() {
        undoable("16 goBack: to slot 0", vats -> vats.goBack(0));
        undoable("16 goBack: to slot 1", vats -> vats.goBack(1));
        undoable("16 goBack: to what it is", of(vats -> {
            vats.fill(0, 5);
            vats.keep(0);
        }), vats -> vats.goBack(0));
        holds("16 goBack: the saved states are not those of the snapshot", vats -> {
            vats.keep(0);
            vats.fill(0, 1);
            vats.fill(0, 2);
            vats.goBack(0);
            Check.due(3, vats.count(9));
            Check.due(2, vats.undo());
            Check.due(3, vats.vatOf(0, 1));
            Check.due(1, vats.undo());
            Check.due(1, vats.vatOf(0, 1));
        });
        holds("16 goBack: grains that were put in since are not put in any more", vats -> {
            vats.fill(0, 10);
            vats.keep(0);
            for (int i = 0; i < 100; i++) {
                vats.dye(0, 0, 999);
            }
            vats.goBack(0);
            Check.due(0, vats.dyeOf(0, 0));
            Check.due(100, vats.dye(0, 0, 100));
        });
    }

    private static void undoNone() {
        throwing("17 undo: none of a new object", STATE, DyeVats::new, DyeVats::undo);
        throwing("17 undo: none behind as many undos as calls", STATE, of(vats -> {
            vats.fill(0, 1);
            vats.undo();
        }), DyeVats::undo);
        throwing("17 undo: none behind six undos, with snapshots and a buffer", STATE, Boundary::unsaved, DyeVats::undo);
        throwing("17 undo: none by calls that are not undoable", STATE, of(vats -> {
            vats.append('x');
            vats.keep(0);
            vats.firstError();
            vats.clearBuffer();
            vats.ifPassed(1, 0, 1);
        }), DyeVats::undo);
        throwing("17 undo: none by a call that throws", STATE, of(vats -> {
            Check.dueThrow(ARGUMENT, () -> vats.fill(0, 0));
            Check.dueThrow(INDEX, () -> vats.stir(5));
            Check.dueThrow(STATE, () -> vats.goBack(0));
        }), DyeVats::undo);
        answers("17 undo: 0 are left of one", 0, of(vats -> vats.stir(0)), DyeVats::undo);
        answers("17 undo: 1 is left of two", 1, of(vats -> {
            vats.stir(0);
            vats.stir(0);
        }), DyeVats::undo);
    }

    private static DyeVats filled(int times) {
        DyeVats vats = new DyeVats();
        for (int i = 0; i < times; i++) {
            vats.fill(0, 1);
        }
        return vats;
    }

    private static void dueUndone(int times, int saved) {
        DyeVats vats = filled(times);
        Check.due("saved states", saved, vats.count(9));
        for (int left = saved - 1; left >= 0; left--) {
            Check.due("undo", left, vats.undo());
            Check.due("saved states", left, vats.count(9));
            Check.due("water", times - saved + left, vats.vatOf(0, 1));
        }
        Check.dueThrow(STATE, () -> vats.undo());
        Check.due("water", times - saved, vats.vatOf(0, 1));
    }

    private static void undoSix() {
        Check.test("17 undo: five of five calls", () -> dueUndone(5, 5));
        Check.test("17 undo: six of six calls", () -> dueUndone(6, 6));
        Check.test("17 undo: six of seven calls, the oldest state is dropped", () -> dueUndone(7, 6));
        Check.test("17 undo: six of eight calls", () -> dueUndone(8, 6));
        Check.test("17 undo: six of fourteen calls", () -> dueUndone(14, 6));
        answers("17 undo: 5 are left of six", 5, () -> filled(6), DyeVats::undo);
        answers("17 undo: 5 are left of those that seven calls have saved", 5, () -> filled(7), DyeVats::undo);
        Check.test("17 undo: a call behind an undo saves in its place", () -> {
            DyeVats vats = filled(6);
            vats.undo();
            vats.fill(0, 100);
            Check.due(6, vats.count(9));
            Check.due(5, vats.undo());
            Check.due(5, vats.vatOf(0, 1));
            Check.due(4, vats.undo());
            Check.due(4, vats.vatOf(0, 1));
        });
        Check.test("17 undo: six again behind six undos", () -> {
            DyeVats vats = filled(9);
            for (int i = 0; i < 6; i++) {
                vats.undo();
            }
            for (int saved = 1; saved <= 6; saved++) {
                vats.stir(1);
                Check.due(saved, vats.count(9));
            }
            vats.stir(1);
            Check.due(6, vats.count(9));
        });
    }

    private static void undoWhat() {
        holds("17 undo: it is not undoable", vats -> {
            vats.fill(0, 1);
            vats.fill(0, 2);
            vats.undo();
            Check.due(1, vats.count(9));
            vats.undo();
            Check.due(0, vats.vatOf(0, 1));
        });
        holds("17 undo: what was refused is taken back, too", vats -> {
            vats.fill(0, 1001);
            Check.due(1, vats.count(7));
            vats.undo();
            Check.due(0, vats.count(7));
        });
        Check.test("17 undo: a throwing call ahead of it has saved nothing", () -> {
            DyeVats vats = filled(3);
            Check.dueThrow(ARGUMENT, () -> vats.fill(0, 2001));
            Check.dueThrow(INDEX, () -> vats.close(0));
            vats.undo();
            Check.due(2, vats.vatOf(0, 1));
        });
        Check.test("17 undo: the buffer stays", () -> {
            DyeVats vats = filled(1);
            type(vats, "0>1*");
            vats.undo();
            Check.due(4, vats.firstError());
            Check.due(4, vats.clearBuffer());
        });
        Check.test("17 undo: a snapshot that was taken since stays", () -> {
            DyeVats vats = filled(2);
            vats.keep(1);
            vats.undo();
            vats.undo();
            vats.goBack(1);
            Check.due(2, vats.vatOf(0, 1));
        });
        Check.test("17 undo: a snapshot that was replaced since does not come again", () -> {
            DyeVats vats = filled(1);
            vats.keep(0);
            vats.fill(0, 1);
            vats.keep(0);
            vats.undo();
            vats.goBack(0);
            Check.due(2, vats.vatOf(0, 1));
        });
        Check.test("17 undo: all that was counted comes again", () -> {
            DyeVats vats = busy();
            DyeVats twin = busy();
            vats.pass(100);
            vats.undo();
            sameWhole(twin, vats);
        });
    }
}
