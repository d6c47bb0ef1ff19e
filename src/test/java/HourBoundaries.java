import java.util.function.Supplier;

/** The boundary cases of promise 10, and of what the terms say of moving water and of an hour. */
final class HourBoundaries extends Boundary {
    private HourBoundaries() { }

    static void run() {
        arguments();
        limit();
        answersOfPass();
        openHours();
        amounts();
        shares();
        valveOrder();
        pipes();
        pipeOrder();
        eachPipeOnce();
        settling();
        steps();
    }

    private static void arguments() {
        holds("10 pass: 1 hour is the least", vats -> {
            vats.pass(1);
            Check.due(1, vats.count(1));
        });
        throwing("10 pass: 0 hours are too few", ARGUMENT, vats -> vats.pass(0));
        throwing("10 pass: -1 hours are too few", ARGUMENT, vats -> vats.pass(-1));
        throwing("10 pass: the least integer is too few", ARGUMENT, vats -> vats.pass(MIN));
        holds("10 pass: 240 hours are the most", vats -> {
            vats.pass(240);
            Check.due(240, vats.count(1));
        });
        throwing("10 pass: 241 hours are too many", ARGUMENT, vats -> vats.pass(241));
        throwing("10 pass: the greatest integer is too many", ARGUMENT, vats -> vats.pass(MAX));
        undoable("10 pass: 1 hour", vats -> vats.pass(1));
        undoable("10 pass: 240 hours, as one call,", vats -> vats.pass(240));
    }

    /** 99840 hours have gone by, by 416 calls. */
    private static DyeVats late() {
        DyeVats vats = new DyeVats();
        vats.fill(0, 1);
        for (int i = 0; i < 416; i++) {
            vats.pass(240);
        }
        return vats;
    }

    static DyeVats atTheLimit() {
        DyeVats vats = late();
        vats.pass(159);
        return vats;
    }

    private static void limit() {
        Check.test("10 pass: 99999 hours are the most in all", () -> {
            DyeVats vats = late();
            Check.due(0, vats.pass(159));
            Check.due(99999, vats.count(1));
        });
        throwing("10 pass: 100000 hours are too many in all", STATE, HourBoundaries::late, vats -> vats.pass(160));
        throwing("10 pass: 240 hours at once are too many in all", STATE, HourBoundaries::late, vats -> vats.pass(240));
        throwing("10 pass: 1 hour more than 99999", STATE, HourBoundaries::atTheLimit, vats -> vats.pass(1));
        throwing("10 pass: too few hours, ahead of too many in all", ARGUMENT, HourBoundaries::atTheLimit,
            vats -> vats.pass(0));
        throwing("10 pass: too many hours at once, ahead of too many in all", ARGUMENT, HourBoundaries::atTheLimit,
            vats -> vats.pass(241));
        Check.test("10 pass: hours that are undone have not gone by", () -> {
            DyeVats vats = atTheLimit();
            vats.undo();
            Check.due(0, vats.pass(159));
            Check.due(99999, vats.count(1));
        });
    }

    private static void answersOfPass() {
        answers("10 pass: 0 if no water goes out", 0, of(vats -> {
            vats.fill(0, 10);
            vats.valve(0, 1, 5, 0, 23);
        }), vats -> vats.pass(24));
        Check.test("10 pass: what went out before is not in the answer", () -> {
            DyeVats vats = of(x -> {
                x.fill(0, 10);
                x.valve(0, 5, 3, 0, 23);
            }).get();
            Check.due(3, vats.pass(1));
            Check.due(3, vats.pass(1));
            Check.due(4, vats.pass(2));
            Check.due(0, vats.pass(1));
            Check.due(10, vats.count(5));
        });
        answers("10 pass: the water of several valves and hours", 35, of(vats -> {
            vats.fill(0, 100);
            vats.fill(1, 15);
            vats.valve(0, 5, 10, 0, 1);
            vats.valve(1, 5, 10, 0, 23);
        }), vats -> vats.pass(24));
    }

    /** How much goes out in each hour by a valve of the rate 1. */
    private static void dueOpen(int first, int last) {
        DyeVats vats = new DyeVats();
        vats.fill(0, 200);
        vats.valve(0, 5, 1, first, last);
        for (int hour = 0; hour < 50; hour++) {
            int of = hour % 24;
            Check.due("hour " + hour, of >= first && of <= last ? 1 : 0, vats.pass(1));
        }
    }

    private static void openHours() {
        Check.test("10 an hour: a valve is open in its first and its last hour, not beside them", () -> dueOpen(5, 7));
        Check.test("10 an hour: a valve of one hour", () -> dueOpen(12, 12));
        Check.test("10 an hour: a valve of the hour 0", () -> dueOpen(0, 0));
        Check.test("10 an hour: a valve of the hour 23", () -> dueOpen(23, 23));
        Check.test("10 an hour: a valve of all hours", () -> dueOpen(0, 23));
        Check.test("10 an hour: a valve of all hours but the first and the last one", () -> dueOpen(1, 22));
        holds("10 an hour: the first one of a new object is 0", vats -> {
            vats.fill(0, 9);
            vats.valve(0, 5, 4, 0, 0);
            vats.valve(0, 5, 1, 1, 23);
            Check.due(4, vats.pass(1));
        });
        holds("10 an hour: behind the hour 23 comes the hour 0", vats -> {
            vats.pass(23);
            Check.due(23, vats.count(0));
            vats.pass(1);
            Check.due(0, vats.count(0));
            Check.due(24, vats.count(1));
            vats.pass(1);
            Check.due(1, vats.count(0));
        });
        holds("10 an hour: a day goes around to the hour that it began with", vats -> {
            vats.pass(7);
            vats.pass(24);
            Check.due(7, vats.count(0));
            vats.pass(240);
            Check.due(7, vats.count(0));
            Check.due(271, vats.count(1));
        });
    }

    /** How much a valve with this rate moves in one hour from vat 0 to vat 1, or out. */
    private static void dueMoved(int want, int water, int rate, int to, int room) {
        DyeVats vats = new DyeVats();
        if (water > 0) {
            vats.fill(0, water);
        }
        if (to == 1 && room < 1000) {
            vats.fill(1, 1000 - room);
        }
        vats.valve(0, to, rate, 0, 0);
        Check.due(to == 5 ? want : 0, vats.pass(1));
        Check.due("moved", want, vats.valveOf(0, 6));
        Check.due("left", water - want, vats.vatOf(0, 1));
        Check.due("there", to == 5 ? 0 : 1000 - room + want, vats.vatOf(1, 1));
        Check.due("out", to == 5 ? want : 0, vats.count(5));
    }

    private static void amounts() {
        Check.test("10 to move water: 1 more water than the rate", () -> dueMoved(30, 31, 30, 1, 1000));
        Check.test("10 to move water: as much water as the rate", () -> dueMoved(30, 30, 30, 1, 1000));
        Check.test("10 to move water: 1 less water than the rate", () -> dueMoved(29, 29, 30, 1, 1000));
        Check.test("10 to move water: no water", () -> dueMoved(0, 0, 30, 1, 1000));
        Check.test("10 to move water: no water and no room", () -> dueMoved(0, 0, 30, 1, 0));
        Check.test("10 to move water: 1 more room than the rate", () -> dueMoved(30, 40, 30, 1, 31));
        Check.test("10 to move water: as much room as the rate", () -> dueMoved(30, 40, 30, 1, 30));
        Check.test("10 to move water: 1 less room than the rate", () -> dueMoved(29, 40, 30, 1, 29));
        Check.test("10 to move water: no room", () -> dueMoved(0, 40, 30, 1, 0));
        Check.test("10 to move water: water, rate and room are even", () -> dueMoved(30, 30, 30, 1, 30));
        Check.test("10 to move water: the water is the least", () -> dueMoved(1, 1, 3, 1, 2));
        Check.test("10 to move water: the room is the least", () -> dueMoved(1, 2, 3, 1, 1));
        Check.test("10 to move water: the rate 1 is the least", () -> dueMoved(1, 1000, 1, 1, 1000));
        Check.test("10 to move water: the rate 500 is the most", () -> dueMoved(500, 1000, 500, 1, 1000));
        Check.test("10 to move water: out, 1 less water than the rate", () -> dueMoved(29, 29, 30, 5, 0));
        Check.test("10 to move water: out, as much water as the rate", () -> dueMoved(30, 30, 30, 5, 0));
        Check.test("10 to move water: out, no water", () -> dueMoved(0, 0, 30, 5, 0));
        holds("10 to move water: out has room for all", vats -> {
            for (int vat = 0; vat < 5; vat++) {
                vats.capacity(vat, 2000);
                vats.fill(vat, 2000);
                vats.valve(vat, 5, 500, 0, 23);
            }
            Check.due(7500, vats.pass(3));
            Check.due(2500, vats.pass(3));
            Check.due(10000, vats.count(5));
        });
        holds("10 to move water: the room is the capacity as it was changed", vats -> {
            vats.fill(0, 100);
            vats.fill(1, 7);
            vats.capacity(1, 7);
            vats.valve(0, 1, 50, 0, 23);
            vats.pass(1);
            Check.due(7, vats.vatOf(1, 1));
            vats.capacity(1, 9);
            vats.pass(1);
            Check.due(9, vats.vatOf(1, 1));
        });
    }

    /** What one valve leaves and brings of dye 1, of water and grains as told; nothing settles. */
    private static void dueGrains(int want, int grains, int water, int moved, int to) {
        DyeVats vats = new DyeVats();
        vats.fill(0, water);
        vats.dye(0, 1, grains);
        vats.set(200);
        vats.valve(0, to, moved, 0, 0);
        vats.pass(1);
        Check.due("left", grains - want, vats.vatOf(0, 3) + vats.vatOf(0, 6));
        Check.due("there", to == 5 ? 0 : want, vats.vatOf(1, 3) + vats.vatOf(1, 6));
        Check.due("out", to == 5 ? want : 0, vats.dyeOf(1, 3));
    }

    private static void shares() {
        Check.test("10 to move water: less than a grain is none", () -> dueGrains(0, 9, 10, 1, 1));
        Check.test("10 to move water: just a grain", () -> dueGrains(1, 10, 10, 1, 1));
        Check.test("10 to move water: less than two grains is one", () -> dueGrains(1, 19, 10, 1, 1));
        Check.test("10 to move water: just two grains", () -> dueGrains(2, 20, 10, 1, 1));
        Check.test("10 to move water: shares are rounded down, not to the nearest", () -> dueGrains(3, 9, 7, 3, 1));
        Check.test("10 to move water: all water but 1", () -> dueGrains(6, 7, 10, 9, 1));
        Check.test("10 to move water: all water takes all grains", () -> dueGrains(7, 7, 10, 10, 1));
        Check.test("10 to move water: a rate beyond the water takes all grains", () -> dueGrains(7, 7, 10, 500, 1));
        Check.test("10 to move water: no grains go with water that has none", () -> dueGrains(999, 999, 1, 1, 5));
        Check.test("10 to move water: out, less than a grain is none", () -> dueGrains(0, 9, 10, 1, 5));
        Check.test("10 to move water: out, just a grain", () -> dueGrains(1, 10, 10, 1, 5));
        holds("10 to move water: no water takes no grains", vats -> {
            vats.fill(0, 10);
            vats.dye(0, 0, 2);
            vats.capacity(1, 1);
            vats.fill(1, 1);
            vats.valve(0, 1, 10, 0, 0);
            vats.pass(1);
            Check.due(2, vats.vatOf(0, 2));
            Check.due(0, vats.vatOf(1, 2));
        });
        holds("10 to move water: the share is of what is moved, not of the rate", vats -> {
            vats.fill(0, 10);
            vats.dye(0, 0, 2);
            vats.capacity(1, 5);
            vats.valve(0, 1, 10, 0, 0);
            vats.pass(1);
            Check.due(1, vats.vatOf(0, 2));
            Check.due(1, vats.vatOf(1, 2));
        });
        holds("10 to move water: each dye by itself", vats -> {
            vats.set(200);
            vats.fill(0, 10);
            vats.dye(0, 0, 3);
            vats.dye(0, 1, 4);
            vats.dye(0, 2, 20);
            vats.valve(0, 1, 5, 0, 0);
            vats.pass(1);
            Check.due(1, vats.vatOf(1, 2));
            Check.due(2, vats.vatOf(1, 3));
            Check.due(10, vats.vatOf(1, 4));
        });
        Check.test("10 to move water: from one vat to another one alone", () -> {
            for (int from = 0; from < 5; from++) {
                for (int to = 0; to <= 5; to++) {
                    if (to != from) {
                        dueMovedAlone(from, to);
                    }
                }
            }
        });
        holds("10 to move water: what has settled stays when all water goes", vats -> {
            vats.fill(0, 100);
            vats.dye(0, 0, 50);
            vats.pass(1);
            vats.valve(0, 5, 100, 1, 1);
            vats.pass(1);
            Check.due(0, vats.vatOf(0, 1));
            Check.due(0, vats.vatOf(0, 2));
            Check.due(30, vats.vatOf(0, 5));
            Check.due(20, vats.dyeOf(0, 3));
        });
        holds("10 to move water: large numbers of grains and water", vats -> {
            vats.capacity(0, 2000);
            vats.fill(0, 2000);
            for (int i = 0; i < 100; i++) {
                vats.dye(0, 2, 999);
            }
            vats.dye(0, 2, 99);
            vats.valve(0, 5, 500, 0, 0);
            vats.pass(1);
            Check.due("99999 * 500 / 2000", 24999, vats.dyeOf(2, 3));
        });
    }

    /** In a crowded object, whose own valves and pipes are gone, a half of a vat's water moves; nothing settles. */
    private static void dueMovedAlone(int from, int to) {
        DyeVats vats = crowded();
        vats.close(1);
        vats.close(0);
        vats.pipe(0, 4);
        vats.pipe(1, 4);
        vats.pipe(2, 3);
        vats.set(200);
        vats.valve(from, to, 50 + 5 * from, 1, 1);
        vats.pass(1);
        for (int vat = 0; vat < 5; vat++) {
            for (int what = 0; what <= 7; what++) {
                int all = crowdedVat(from, what);
                int gone = what == 1 || what >= 2 && what <= 4 ? all / 2 : 0;
                int due = crowdedVat(vat, what) + (vat == to ? gone : vat == from ? -gone : 0);
                Check.due(from + " to " + to + ", vatOf(" + vat + ", " + what + ")", due, vats.vatOf(vat, what));
            }
        }
        for (int dye = 0; dye < 3; dye++) {
            Check.due("out", to == 5 ? crowdedVat(from, 2 + dye) / 2 : 0, vats.dyeOf(dye, 3));
        }
        Check.due("out", to == 5 ? 50 + 5 * from : 0, vats.count(5));
    }

    private static void valveOrder() {
        holds("10 an hour: a valve moves what one ahead of it has brought", vats -> {
            vats.fill(0, 10);
            vats.valve(0, 1, 10, 0, 0);
            vats.valve(1, 2, 10, 0, 0);
            vats.pass(1);
            Check.due(10, vats.vatOf(2, 1));
        });
        holds("10 an hour: a valve does not move what one behind it will bring", vats -> {
            vats.fill(0, 10);
            vats.valve(1, 2, 10, 0, 0);
            vats.valve(0, 1, 10, 0, 0);
            vats.pass(1);
            Check.due(10, vats.vatOf(1, 1));
        });
        holds("10 an hour: a valve has the room that one ahead of it has made", vats -> {
            vats.fill(0, 10);
            vats.fill(1, 1000);
            vats.valve(1, 5, 4, 0, 0);
            vats.valve(0, 1, 10, 0, 0);
            vats.pass(1);
            Check.due(4, vats.valveOf(1, 6));
        });
        holds("10 an hour: the last water goes by the valve with the least number", vats -> {
            vats.fill(0, 5);
            vats.valve(0, 1, 4, 0, 0);
            vats.valve(0, 2, 4, 0, 0);
            vats.valve(0, 3, 4, 0, 0);
            vats.pass(1);
            Check.due(4, vats.vatOf(1, 1));
            Check.due(1, vats.vatOf(2, 1));
            Check.due(0, vats.vatOf(3, 1));
        });
        holds("10 an hour: all eight valves, the last one too", vats -> {
            vats.fill(0, 100);
            for (int rate = 1; rate <= 8; rate++) {
                vats.valve(0, 5, rate, 0, 0);
            }
            Check.due(36, vats.pass(1));
            Check.due(8, vats.valveOf(7, 6));
        });
    }

    /** What one hour leaves of water in two vats with a pipe between them. */
    private static void dueLevel(int one, int other, int[] water, int... want) {
        DyeVats vats = new DyeVats();
        for (int i = 0; i < 2; i++) {
            if (water[i] > 0) {
                vats.fill(i == 0 ? one : other, water[i]);
            }
        }
        vats.pipe(one, other);
        vats.pass(1);
        Check.due("water of " + one, want[0], vats.vatOf(one, 1));
        Check.due("water of " + other, want[1], vats.vatOf(other, 1));
    }

    private static int[] water(int one, int other) {
        return new int[] {one, other};
    }

    private static void pipes() {
        Check.test("10 an hour: a pipe between even vats", () -> dueLevel(0, 4, water(7, 7), 7, 7));
        Check.test("10 an hour: a pipe between empty vats", () -> dueLevel(0, 4, water(0, 0), 0, 0));
        Check.test("10 an hour: half of a difference of 1 is 0", () -> dueLevel(0, 4, water(8, 7), 8, 7));
        Check.test("10 an hour: half of a difference of 1 is 0, the other way, too", () -> dueLevel(0, 4, water(7, 8), 7, 8));
        Check.test("10 an hour: half of a difference of 2 is 1", () -> dueLevel(0, 4, water(9, 7), 8, 8));
        Check.test("10 an hour: half of a difference of 2 is 1, the other way, too", () -> dueLevel(0, 4, water(7, 9), 8, 8));
        Check.test("10 an hour: half of a difference of 3 is 1", () -> dueLevel(3, 1, water(10, 7), 9, 8));
        Check.test("10 an hour: half of a difference of 3 is 1, the other way, too", () -> dueLevel(3, 1, water(7, 10), 8, 9));
        Check.test("10 an hour: a pipe from a full vat to an empty one", () -> dueLevel(1, 2, water(1000, 0), 500, 500));
        Check.test("10 an hour: a pipe from 1 water to none", () -> dueLevel(1, 2, water(1, 0), 1, 0));
        holds("10 an hour: without a pipe nothing levels", vats -> {
            vats.fill(0, 10);
            vats.pipe(1, 2);
            vats.pipe(0, 1);
            vats.pipe(0, 1);
            vats.pass(24);
            Check.due(10, vats.vatOf(0, 1));
        });
        holds("10 an hour: a pipe's water has the room of the lower vat", vats -> {
            vats.fill(0, 100);
            vats.capacity(4, 5);
            vats.pipe(0, 4);
            vats.pass(1);
            Check.due(95, vats.vatOf(0, 1));
            vats.pass(1);
            Check.due("no room", 95, vats.vatOf(0, 1));
            Check.due(5, vats.vatOf(4, 1));
        });
        holds("10 an hour: dye goes by a pipe with its share, rounded down", vats -> {
            vats.set(200);
            vats.fill(3, 8);
            vats.dye(3, 0, 5);
            vats.fill(1, 2);
            vats.dye(1, 0, 1);
            vats.pipe(1, 3);
            vats.pass(1);
            Check.due("5 less 5 * 3 / 8", 4, vats.vatOf(3, 2));
            Check.due(2, vats.vatOf(1, 2));
        });
        holds("10 an hour: a pipe works in each hour", vats -> {
            vats.fill(0, 8);
            vats.pipe(0, 1);
            vats.pipe(1, 2);
            vats.pass(1);
            Check.due(2, vats.vatOf(2, 1));
            vats.pass(1);
            Check.due("3, 3, 2", 2, vats.vatOf(2, 1));
            Check.due(3, vats.vatOf(0, 1));
        });
    }

    private static void dueWaters(DyeVats vats, int... want) {
        for (int vat = 0; vat < want.length; vat++) {
            Check.due("water of " + vat, want[vat], vats.vatOf(vat, 1));
        }
    }

    private static void pipeOrder() {
        holds("10 an hour: pipes by the lesser number, not as they were laid", vats -> {
            vats.fill(2, 16);
            vats.pipe(1, 2);
            vats.pipe(0, 2);
            vats.pass(1);
            dueWaters(vats, 8, 4, 4);
        });
        holds("10 an hour: pipes of one vat by the greater number, not as they were laid", vats -> {
            vats.fill(0, 16);
            vats.pipe(0, 4);
            vats.pipe(0, 3);
            vats.pass(1);
            dueWaters(vats, 4, 0, 0, 8, 4);
        });
        holds("10 an hour: a pipe up to a vat goes ahead of a pipe on from it", vats -> {
            vats.fill(0, 16);
            vats.pipe(2, 4);
            vats.pipe(0, 2);
            vats.pass(1);
            dueWaters(vats, 8, 0, 4, 0, 4);
        });
        holds("10 an hour: a pipe levels what the pipe ahead of it has left", vats -> {
            vats.fill(0, 16);
            vats.pipe(0, 1);
            vats.pipe(1, 2);
            vats.pipe(2, 3);
            vats.pipe(3, 4);
            vats.pass(1);
            dueWaters(vats, 8, 4, 2, 1, 1);
        });
    }

    private static void eachPipeOnce() {
        holds("10 an hour: each pipe works once, also between vats that another one changes again", vats -> {
            vats.fill(0, 16);
            vats.pipe(0, 1);
            vats.pipe(0, 2);
            vats.pass(1);
            dueWaters(vats, 4, 8, 4);
        });
        holds("10 an hour: all ten pipes, each once and in their order", vats -> {
            vats.fill(0, 160);
            for (int other = 4; other >= 0; other--) {
                for (int one = 4; one > other; one--) {
                    vats.pipe(one, other);
                }
            }
            vats.pass(1);
            dueWaters(vats, 10, 25, 38, 44, 43);
        });
    }

    /** What one hour leaves dissolved of these grains in this water. */
    private static void dueDissolved(int want, int setting, int water, int grains) {
        for (int dye = 0; dye < 3; dye++) {
            DyeVats vats = new DyeVats();
            vats.set(setting);
            vats.fill(4, water);
            vats.dye(4, dye, grains);
            vats.pass(1);
            Check.due("dissolved of dye " + dye, want, vats.vatOf(4, 2 + dye));
            Check.due("settled of dye " + dye, grains - want, vats.vatOf(4, 5 + dye));
        }
    }

    private static void settling() {
        Check.test("10 an hour: 1 less than the limit does not settle", () -> dueDissolved(19, 20, 100, 19));
        Check.test("10 an hour: just the limit does not settle", () -> dueDissolved(20, 20, 100, 20));
        Check.test("10 an hour: 1 more than the limit settles", () -> dueDissolved(20, 20, 100, 21));
        Check.test("10 an hour: all beyond the limit settle", () -> dueDissolved(20, 20, 100, 999));
        Check.test("10 an hour: the limit is rounded down", () -> dueDissolved(20, 20, 104, 21));
        Check.test("10 an hour: the limit is 1 more with 1 water more", () -> dueDissolved(21, 20, 105, 21));
        Check.test("10 an hour: 4 water hold no grain", () -> dueDissolved(0, 20, 4, 1));
        Check.test("10 an hour: 5 water hold a grain", () -> dueDissolved(1, 20, 5, 1));
        Check.test("10 an hour: by the setting 0 all settle", () -> dueDissolved(0, 0, 1000, 1));
        Check.test("10 an hour: by the setting 1, 99 water hold none", () -> dueDissolved(0, 1, 99, 5));
        Check.test("10 an hour: by the setting 1, 100 water hold a grain", () -> dueDissolved(1, 1, 100, 5));
        Check.test("10 an hour: by the setting 200, 1 water holds 2 grains", () -> dueDissolved(2, 200, 1, 3));
        Check.test("10 an hour: by the setting 199, 1 water holds 1 grain", () -> dueDissolved(1, 199, 1, 3));
        Check.test("10 an hour: each dye of each vat by its own limit", () -> {
            DyeVats vats = crowded();
            for (int vat = 0; vat < 5; vat++) {
                for (int what = 0; what <= 8; what++) {
                    Check.due("vatOf(" + vat + ", " + what + ")", crowdedVat(vat, what), vats.vatOf(vat, what));
                }
            }
        });
        holds("10 an hour: each dye has the limit by itself", vats -> {
            vats.fill(0, 100);
            for (int dye = 0; dye < 3; dye++) {
                vats.dye(0, dye, 20);
            }
            vats.pass(24);
            for (int dye = 0; dye < 3; dye++) {
                Check.due(20, vats.vatOf(0, 2 + dye));
            }
        });
        holds("10 an hour: what settles comes to what has settled", vats -> {
            vats.fill(0, 100);
            vats.dye(0, 0, 50);
            vats.pass(1);
            vats.dye(0, 0, 5);
            vats.pass(1);
            Check.due(35, vats.vatOf(0, 5));
        });
        holds("10 an hour: what has settled does not dissolve when water comes", vats -> {
            vats.fill(0, 100);
            vats.dye(0, 0, 50);
            vats.pass(1);
            vats.fill(0, 900);
            vats.pass(24);
            Check.due(30, vats.vatOf(0, 5));
        });
        holds("10 an hour: grains settle when water goes and they stay", vats -> {
            vats.fill(0, 10);
            vats.dye(0, 0, 2);
            vats.valve(0, 5, 4, 0, 0);
            vats.pass(1);
            Check.due("6 water hold 1", 1, vats.vatOf(0, 2));
            Check.due(1, vats.vatOf(0, 5));
        });
    }

    /** Vat 0 gives water by a valve to vat 1, from which a pipe goes to vat 2. */
    private static final Supplier<DyeVats> CHAIN = of(vats -> {
        vats.fill(0, 100);
        vats.dye(0, 0, 100);
        vats.valve(0, 1, 20, 0, 0);
        vats.pipe(1, 2);
    });

    private static void steps() {
        Check.test("10 an hour: pipes work behind the valves", () -> {
            DyeVats vats = CHAIN.get();
            vats.pass(1);
            dueWaters(vats, 80, 10, 10);
        });
        Check.test("10 an hour: grains settle behind the valves and pipes", () -> {
            DyeVats vats = CHAIN.get();
            vats.pass(1);
            int[] dissolved = {16, 2, 2};
            int[] settled = {64, 8, 8};
            for (int vat = 0; vat < 3; vat++) {
                Check.due("dissolved in " + vat, dissolved[vat], vats.vatOf(vat, 2));
                Check.due("settled in " + vat, settled[vat], vats.vatOf(vat, 5));
            }
        });
        Check.test("10 an hour: the next hour begins behind that", () -> {
            DyeVats vats = CHAIN.get();
            vats.valve(1, 5, 20, 1, 1);
            vats.pass(1);
            Check.due(10, vats.pass(1));
            dueWaters(vats, 80, 5, 5);
        });
        Check.test("10 pass: many hours are as many times one hour", () -> {
            DyeVats many = busy();
            DyeVats each = busy();
            int out = 0;
            for (int i = 0; i < 49; i++) {
                out += each.pass(1);
            }
            Check.due(out, many.pass(49));
            for (int vat = 0; vat < 5; vat++) {
                for (int what = 0; what <= 9; what++) {
                    Check.due("vatOf(" + vat + ", " + what + ")", each.vatOf(vat, what), many.vatOf(vat, what));
                }
            }
        });
    }
}
