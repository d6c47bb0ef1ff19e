import java.util.function.Supplier;

/** The boundary cases of promises 6 to 9. */
final class ValveBoundaries extends Boundary {
    private ValveBoundaries() { }

    static void run() {
        valveVats();
        valveNumbers();
        valveLimit();
        valveOrder();
        closeArguments();
        closeNumbers();
        pipeArguments();
        pipes();
        set();
    }

    /** Eight valves with the rates 1 to 8, of which each has moved its rate of water. */
    private static DyeVats eight() {
        DyeVats vats = new DyeVats();
        vats.fill(0, 100);
        for (int rate = 1; rate <= 8; rate++) {
            vats.valve(0, 5, rate, 0, 0);
        }
        vats.pass(1);
        return vats;
    }

    /** A valve is added, and is as it was asked for. */
    private static void adds(String name, int... parts) {
        holds(name, vats -> {
            Check.due(0, vats.valve(parts[0], parts[1], parts[2], parts[3], parts[4]));
            Check.due(1, vats.count(2));
            for (int what = 0; what < 5; what++) {
                Check.due("valveOf(0, " + what + ")", parts[what], vats.valveOf(0, what));
            }
        });
    }

    private static void throwsAt(String name, Class<? extends RuntimeException> want, Supplier<DyeVats> recipe,
            int... parts) {
        throwing(name, want, recipe, vats -> vats.valve(parts[0], parts[1], parts[2], parts[3], parts[4]));
    }

    private static void throwsAt(String name, Class<? extends RuntimeException> want, int... parts) {
        throwsAt(name, want, Boundary::busy, parts);
    }

    private static void valveVats() {
        adds("6 valve: vat 0 is the first it comes from", 0, 3, 7, 8, 9);
        adds("6 valve: vat 4 is the last it comes from", 4, 3, 7, 8, 9);
        throwsAt("6 valve: vat -1 is none to come from", INDEX, -1, 3, 7, 8, 9);
        throwsAt("6 valve: it does not come from out, which is 5", INDEX, 5, 3, 7, 8, 9);
        throwsAt("6 valve: the least integer is no vat to come from", INDEX, MIN, 3, 7, 8, 9);
        throwsAt("6 valve: the greatest integer is no vat to come from", INDEX, MAX, 3, 7, 8, 9);
        adds("6 valve: vat 0 is the first it goes to", 3, 0, 7, 8, 9);
        adds("6 valve: vat 4 is the last it goes to", 3, 4, 7, 8, 9);
        adds("6 valve: it goes out by 5", 3, 5, 7, 8, 9);
        adds("6 valve: from the last vat out", 4, 5, 7, 8, 9);
        adds("6 valve: from the first vat out", 0, 5, 7, 8, 9);
        throwsAt("6 valve: vat -1 is none to go to", INDEX, 3, -1, 7, 8, 9);
        throwsAt("6 valve: 6 is neither a vat nor out", INDEX, 3, 6, 7, 8, 9);
        throwsAt("6 valve: the least integer is no vat to go to", INDEX, 3, MIN, 7, 8, 9);
        throwsAt("6 valve: the greatest integer is no vat to go to", INDEX, 3, MAX, 7, 8, 9);
        throwsAt("6 valve: from vat 0 to itself", ARGUMENT, 0, 0, 7, 8, 9);
        throwsAt("6 valve: from vat 4 to itself", ARGUMENT, 4, 4, 7, 8, 9);
        throwsAt("6 valve: from out to out is from no vat", INDEX, 5, 5, 7, 8, 9);
        throwsAt("6 valve: from no vat to the same one", INDEX, -1, -1, 7, 8, 9);
    }

    private static void valveNumbers() {
        adds("6 valve: the rate 1 is the least", 1, 2, 1, 8, 9);
        throwsAt("6 valve: the rate 0 is too little", ARGUMENT, 1, 2, 0, 8, 9);
        throwsAt("6 valve: the rate -1 is too little", ARGUMENT, 1, 2, -1, 8, 9);
        throwsAt("6 valve: the least integer is too little a rate", ARGUMENT, 1, 2, MIN, 8, 9);
        adds("6 valve: the rate 500 is the most", 1, 2, 500, 8, 9);
        throwsAt("6 valve: the rate 501 is too much", ARGUMENT, 1, 2, 501, 8, 9);
        throwsAt("6 valve: the greatest integer is too much a rate", ARGUMENT, 1, 2, MAX, 8, 9);
        adds("6 valve: the hour 0 is the first one", 1, 2, 7, 0, 9);
        throwsAt("6 valve: no first hour is -1", ARGUMENT, 1, 2, 7, -1, 9);
        throwsAt("6 valve: no first hour is the least integer", ARGUMENT, 1, 2, 7, MIN, 9);
        adds("6 valve: the first hour can be 23", 1, 2, 7, 23, 23);
        throwsAt("6 valve: no first hour is 24", ARGUMENT, 1, 2, 7, 24, 24);
        throwsAt("6 valve: no first hour is 24, also with the last hour 23", ARGUMENT, 1, 2, 7, 24, 23);
        throwsAt("6 valve: no first hour is the greatest integer", ARGUMENT, 1, 2, 7, MAX, 9);
        adds("6 valve: the last hour can be 23", 1, 2, 7, 8, 23);
        adds("6 valve: all hours", 1, 2, 7, 0, 23);
        throwsAt("6 valve: no last hour is 24", ARGUMENT, 1, 2, 7, 8, 24);
        throwsAt("6 valve: no last hour is the greatest integer", ARGUMENT, 1, 2, 7, 8, MAX);
        adds("6 valve: the last hour can be the first one", 1, 2, 7, 8, 8);
        adds("6 valve: the hour 0 alone", 1, 2, 7, 0, 0);
        throwsAt("6 valve: the last hour is not 1 less than the first one", ARGUMENT, 1, 2, 7, 8, 7);
        throwsAt("6 valve: the last hour is not in the next day", ARGUMENT, 1, 2, 7, 23, 0);
        throwsAt("6 valve: no last hour is -1", ARGUMENT, 1, 2, 7, 0, -1);
        throwsAt("6 valve: no hour is -1", ARGUMENT, 1, 2, 7, -1, -1);
        throwsAt("6 valve: no last hour is the least integer", ARGUMENT, 1, 2, 7, 0, MIN);
    }

    private static void valveLimit() {
        holds("6 valve: eight valves, numbered from 0 as they came", vats -> {
            for (int i = 0; i < 8; i++) {
                Check.due(i, vats.valve(4 - i % 5, 5, 100 + i, i, i));
                Check.due(i + 1, vats.count(2));
            }
            for (int i = 0; i < 8; i++) {
                Check.due(4 - i % 5, vats.valveOf(i, 0));
                Check.due(100 + i, vats.valveOf(i, 2));
                Check.due(i, vats.valveOf(i, 4));
            }
        });
        throwsAt("6 valve: there is no ninth one", STATE, ValveBoundaries::eight, 0, 1, 1, 0, 0);
        answers("6 valve: an eighth one again, when one was taken away", 7, () -> {
            DyeVats vats = eight();
            vats.close(3);
            return vats;
        }, vats -> vats.valve(0, 1, 9, 0, 0));
        answers("6 valve: an eighth one again, when one was undone", 7, () -> {
            DyeVats vats = new DyeVats();
            for (int i = 0; i < 8; i++) {
                vats.valve(0, 5, 1, 0, 0);
            }
            vats.undo();
            return vats;
        }, vats -> vats.valve(0, 1, 9, 0, 0));
        holds("6 valve: two that are alike are two", vats -> {
            vats.valve(0, 1, 1, 0, 0);
            Check.due(1, vats.valve(0, 1, 1, 0, 0));
        });
        Check.test("6 valve: a new one has moved nothing, though one with its number had", () -> {
            DyeVats vats = eight();
            vats.close(7);
            vats.valve(0, 5, 8, 0, 0);
            Check.due(0, vats.valveOf(7, 6));
        });
        undoable("6 valve", vats -> vats.valve(0, 1, 1, 0, 0));
        undoable("6 valve: the eighth", of(vats -> {
            for (int i = 0; i < 7; i++) {
                vats.valve(0, 5, 1, 0, 0);
            }
        }), vats -> vats.valve(0, 1, 1, 0, 0));
    }

    private static void valveOrder() {
        throwsAt("6 valve: no such vat from, ahead of a wrong rate", INDEX, 5, 0, 0, 8, 9);
        throwsAt("6 valve: no such vat to, ahead of a wrong rate", INDEX, 0, 6, 501, 8, 9);
        throwsAt("6 valve: no such vat from, ahead of a wrong first hour", INDEX, -1, 0, 7, 24, 24);
        throwsAt("6 valve: no such vat to, ahead of a wrong last hour", INDEX, 0, -1, 7, 8, 7);
        throwsAt("6 valve: no such vat, ahead of too many valves", INDEX, ValveBoundaries::eight, 0, 6, 7, 8, 9);
        throwsAt("6 valve: the same vat, ahead of too many valves", ARGUMENT, ValveBoundaries::eight, 0, 0, 7, 8, 9);
        throwsAt("6 valve: a wrong rate, ahead of too many valves", ARGUMENT, ValveBoundaries::eight, 0, 1, 0, 8, 9);
        throwsAt("6 valve: a wrong first hour, ahead of too many valves", ARGUMENT, ValveBoundaries::eight, 0, 1, 7, -1, 9);
        throwsAt("6 valve: a wrong last hour, ahead of too many valves", ARGUMENT, ValveBoundaries::eight, 0, 1, 7, 8, 24);
        throwsAt("6 valve: no such vat, ahead of all else", INDEX, ValveBoundaries::eight, 5, 5, 0, 24, 23);
    }

    private static void closeArguments() {
        throwing("7 close: valve 0 is none, without valves", INDEX, DyeVats::new, vats -> vats.close(0));
        throwing("7 close: valve -1 is none, without valves", INDEX, DyeVats::new, vats -> vats.close(-1));
        throwing("7 close: valve -1 is none", INDEX, vats -> vats.close(-1));
        throwing("7 close: valve 2 of two is none", INDEX, vats -> vats.close(2));
        throwing("7 close: valve 8 of eight is none", INDEX, ValveBoundaries::eight, vats -> vats.close(8));
        throwing("7 close: the least integer is no valve", INDEX, vats -> vats.close(MIN));
        throwing("7 close: the greatest integer is no valve", INDEX, vats -> vats.close(MAX));
        throwing("7 close: what was the last valve is none any more", INDEX, () -> {
            DyeVats vats = eight();
            vats.close(7);
            return vats;
        }, vats -> vats.close(7));
        undoable("7 close: the first", vats -> vats.close(0));
        undoable("7 close: the last", vats -> vats.close(1));
        undoable("7 close: of eight", ValveBoundaries::eight, vats -> vats.close(3));
    }

    /** Rates and moved water of the valves behind close; both are the old numbers and 1 more. */
    private static void dueLeft(int closed) {
        DyeVats vats = eight();
        Check.due(7, vats.close(closed));
        Check.due(7, vats.count(2));
        for (int valve = 0; valve < 7; valve++) {
            int old = valve < closed ? valve : valve + 1;
            Check.due("rate of " + valve, old + 1, vats.valveOf(valve, 2));
            Check.due("moved by " + valve, old + 1, vats.valveOf(valve, 6));
        }
        Check.dueThrow(INDEX, () -> vats.valveOf(7, 0));
    }

    private static void closeNumbers() {
        Check.test("7 close: the first of eight, all behind it get 1 less", () -> dueLeft(0));
        Check.test("7 close: one of eight, those ahead of it stay", () -> dueLeft(4));
        Check.test("7 close: the last but one of eight", () -> dueLeft(6));
        Check.test("7 close: the last of eight, all stay", () -> dueLeft(7));
        Check.test("7 close: eight times until none is left", () -> {
            DyeVats vats = eight();
            for (int left = 7; left >= 0; left--) {
                Check.due(left, vats.close(0));
            }
            Check.dueThrow(INDEX, () -> vats.close(0));
        });
        holds("7 close: the only one leaves 0", vats -> {
            vats.valve(0, 1, 1, 0, 0);
            Check.due(0, vats.close(0));
            Check.due(0, vats.count(2));
        });
        Check.test("7 close: the water that it moved out stays out", () -> {
            DyeVats vats = eight();
            vats.close(7);
            Check.due(36, vats.count(5));
            Check.due(64, vats.vatOf(0, 1));
        });
        holds("7 close: a valve that is closed moves no more", vats -> {
            vats.fill(0, 10);
            vats.valve(0, 5, 1, 0, 23);
            vats.close(0);
            Check.due(0, vats.pass(24));
        });
    }

    private static void pipeArguments() {
        answers("8 pipe: one can be 0", 1, DyeVats::new, vats -> vats.pipe(0, 3));
        answers("8 pipe: one can be 4", 1, DyeVats::new, vats -> vats.pipe(4, 3));
        answers("8 pipe: the other can be 0", 1, DyeVats::new, vats -> vats.pipe(3, 0));
        answers("8 pipe: the other can be 4", 1, DyeVats::new, vats -> vats.pipe(3, 4));
        throwing("8 pipe: one is not -1", INDEX, vats -> vats.pipe(-1, 3));
        throwing("8 pipe: one is not 5, for no pipe goes out", INDEX, vats -> vats.pipe(5, 3));
        throwing("8 pipe: one is not the least integer", INDEX, vats -> vats.pipe(MIN, 3));
        throwing("8 pipe: one is not the greatest integer", INDEX, vats -> vats.pipe(MAX, 3));
        throwing("8 pipe: the other is not -1", INDEX, vats -> vats.pipe(3, -1));
        throwing("8 pipe: the other is not 5, for no pipe goes out", INDEX, vats -> vats.pipe(3, 5));
        throwing("8 pipe: the other is not the least integer", INDEX, vats -> vats.pipe(3, MIN));
        throwing("8 pipe: the other is not the greatest integer", INDEX, vats -> vats.pipe(3, MAX));
        throwing("8 pipe: vat 0 and itself", ARGUMENT, vats -> vats.pipe(0, 0));
        throwing("8 pipe: vat 4 and itself", ARGUMENT, vats -> vats.pipe(4, 4));
        throwing("8 pipe: no such vat, ahead of the same one: 5", INDEX, vats -> vats.pipe(5, 5));
        throwing("8 pipe: no such vat, ahead of the same one: -1", INDEX, vats -> vats.pipe(-1, -1));
        undoable("8 pipe: laid", vats -> vats.pipe(2, 3));
        undoable("8 pipe: taken away", vats -> vats.pipe(0, 1));
        undoable("8 pipe: taken away by the other name", vats -> vats.pipe(1, 0));
    }

    private static void pipes() {
        holds("8 pipe: between each two vats, ten in all", vats -> {
            int pipes = 0;
            for (int one = 0; one < 5; one++) {
                for (int other = one + 1; other < 5; other++) {
                    Check.due(1, vats.pipe(one, other));
                    pipes++;
                    Check.due(pipes, vats.count(3));
                }
            }
            for (int vat = 0; vat < 5; vat++) {
                Check.due("the vats that have pipes to " + vat, 31 - (1 << vat), vats.vatOf(vat, 8));
            }
            for (int one = 0; one < 5; one++) {
                for (int other = 0; other < one; other++) {
                    Check.due(0, vats.pipe(one, other));
                    pipes--;
                    Check.due(pipes, vats.count(3));
                }
            }
            for (int vat = 0; vat < 5; vat++) {
                Check.due(0, vats.vatOf(vat, 8));
            }
        });
        holds("8 pipe: laid, taken away and laid again", vats -> {
            Check.due(1, vats.pipe(1, 2));
            Check.due(0, vats.pipe(1, 2));
            Check.due(1, vats.pipe(1, 2));
            Check.due(4, vats.vatOf(1, 8));
        });
        holds("8 pipe: the same one by either vat first", vats -> {
            Check.due(1, vats.pipe(4, 0));
            Check.due(0, vats.pipe(0, 4));
            Check.due(0, vats.count(3));
        });
        holds("8 pipe: other pipes stay", vats -> {
            vats.pipe(0, 1);
            vats.pipe(0, 2);
            vats.pipe(0, 1);
            Check.due(4, vats.vatOf(0, 8));
            Check.due(0, vats.vatOf(1, 8));
            Check.due(1, vats.vatOf(2, 8));
        });
        holds("8 pipe: no water goes at once", vats -> {
            vats.fill(0, 10);
            vats.pipe(0, 1);
            Check.due(10, vats.vatOf(0, 1));
        });
    }

    private static void set() {
        holds("9 set: 0 is the least", vats -> {
            Check.due(20, vats.set(0));
            Check.due(0, vats.count(8));
        });
        holds("9 set: 200 is the most", vats -> {
            Check.due(20, vats.set(200));
            Check.due(200, vats.count(8));
        });
        throwing("9 set: -1 is too little", ARGUMENT, vats -> vats.set(-1));
        throwing("9 set: 201 is too much", ARGUMENT, vats -> vats.set(201));
        throwing("9 set: the least integer is too little", ARGUMENT, vats -> vats.set(MIN));
        throwing("9 set: the greatest integer is too much", ARGUMENT, vats -> vats.set(MAX));
        holds("9 set: the answer is the previous value, not the first one", vats -> {
            vats.set(7);
            Check.due(7, vats.set(8));
            Check.due(8, vats.set(8));
        });
        undoable("9 set", vats -> vats.set(0));
        undoable("9 set: the value that it has", vats -> vats.set(20));
        holds("9 set: nothing settles at once, but in the next hour", vats -> {
            vats.fill(0, 100);
            vats.dye(0, 2, 20);
            vats.set(0);
            Check.due(20, vats.vatOf(0, 4));
            Check.due(0, vats.vatOf(0, 7));
            vats.pass(1);
            Check.due(0, vats.vatOf(0, 4));
            Check.due(20, vats.vatOf(0, 7));
        });
        holds("9 set: nothing that has settled dissolves by it", vats -> {
            vats.fill(0, 100);
            vats.dye(0, 2, 50);
            vats.pass(1);
            vats.set(200);
            vats.pass(1);
            Check.due(30, vats.vatOf(0, 7));
        });
    }
}
