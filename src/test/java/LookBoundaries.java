import java.util.function.Supplier;

/** The boundary cases of promises 18 to 21. */
final class LookBoundaries extends Boundary {
    private LookBoundaries() { }

    static void run() {
        vatOfArguments();
        vatOfValues();
        valveOfArguments();
        valveOfValues();
        dyeOfArguments();
        dyeOfValues();
        greatestShare();
        countArguments();
        countHours();
        countValues();
    }

    private static void vatOfArguments() {
        answers("18 vatOf: vat 0 is the first", 1000, DyeVats::new, vats -> vats.vatOf(0, 0));
        answers("18 vatOf: vat 4 is the last", 1000, DyeVats::new, vats -> vats.vatOf(4, 0));
        throwing("18 vatOf: vat -1 is none", INDEX, vats -> vats.vatOf(-1, 0));
        throwing("18 vatOf: vat 5 is none, for out is no vat", INDEX, vats -> vats.vatOf(5, 1));
        throwing("18 vatOf: the least integer is no vat", INDEX, vats -> vats.vatOf(MIN, 0));
        throwing("18 vatOf: the greatest integer is no vat", INDEX, vats -> vats.vatOf(MAX, 0));
        answers("18 vatOf: 0 is the first property", 1000, DyeVats::new, vats -> vats.vatOf(2, 0));
        answers("18 vatOf: 9 is the last property", 20, Boundary::undyed, vats -> vats.vatOf(0, 9));
        throwing("18 vatOf: there is no property -1", ARGUMENT, vats -> vats.vatOf(0, -1));
        throwing("18 vatOf: there is no property 10", ARGUMENT, vats -> vats.vatOf(4, 10));
        throwing("18 vatOf: the least integer is no property", ARGUMENT, vats -> vats.vatOf(0, MIN));
        throwing("18 vatOf: the greatest integer is no property", ARGUMENT, vats -> vats.vatOf(0, MAX));
        throwing("18 vatOf: no such vat, ahead of no property -1", INDEX, vats -> vats.vatOf(5, -1));
        throwing("18 vatOf: no such vat, ahead of no property 10", INDEX, vats -> vats.vatOf(-1, 10));
        for (int what = 0; what <= 9; what++) {
            int of = what;
            changesNothing("18 vatOf: property " + what + " changes nothing", Boundary::full, vats -> vats.vatOf(0, of));
        }
    }

    private static void vatOfValues() {
        for (int what = 0; what <= 9; what++) {
            int of = what;
            Check.test("18 vatOf: property " + what + " of each vat, all five in use", () -> {
                for (int vat = 0; vat < 5; vat++) {
                    Check.due("vatOf(" + vat + ", " + of + ")", crowdedVat(vat, of), crowded().vatOf(vat, of));
                }
            });
        }
        answers("18 vatOf: pipes to all other vats", 15, of(vats -> {
            for (int other = 0; other < 4; other++) {
                vats.pipe(4, other);
            }
        }), vats -> vats.vatOf(4, 8));
        answers("18 vatOf: an empty vat can hold no grain", 0, of(vats -> vats.set(200)), vats -> vats.vatOf(0, 9));
        answers("18 vatOf: by the setting 0 no grain can be held", 0, of(vats -> {
            vats.fill(0, 1000);
            vats.set(0);
        }), vats -> vats.vatOf(0, 9));
        answers("18 vatOf: 4 water can hold 0.8 grains, so none", 0, of(vats -> vats.fill(0, 4)), vats -> vats.vatOf(0, 9));
        answers("18 vatOf: 5 water can hold a grain", 1, of(vats -> vats.fill(0, 5)), vats -> vats.vatOf(0, 9));
        answers("18 vatOf: 9 water can hold 1.8 grains, so one", 1, of(vats -> vats.fill(0, 9)), vats -> vats.vatOf(0, 9));
        answers("18 vatOf: the most that can be held", 4000, of(vats -> {
            vats.capacity(0, 2000);
            vats.fill(0, 2000);
            vats.set(200);
        }), vats -> vats.vatOf(0, 9));
        answers("18 vatOf: what is dissolved already is not taken off it", 20, of(vats -> {
            vats.fill(0, 100);
            vats.dye(0, 0, 15);
        }), vats -> vats.vatOf(0, 9));
    }

    /** Valve 0 is open from hour 2 to hour 3, valve 1 in hour 23 alone, valve 2 in hour 0 alone. */
    private static DyeVats valves(int hours) {
        DyeVats vats = new DyeVats();
        vats.fill(1, 40);
        vats.valve(1, 3, 9, 2, 3);
        vats.valve(1, 5, 1, 23, 23);
        vats.valve(1, 5, 2, 0, 0);
        if (hours > 0) {
            vats.pass(hours);
        }
        return vats;
    }

    private static void valveOfArguments() {
        answers("19 valveOf: valve 0 is the first", 9, () -> valves(0), vats -> vats.valveOf(0, 2));
        answers("19 valveOf: valve 2 of three is the last", 2, () -> valves(0), vats -> vats.valveOf(2, 2));
        throwing("19 valveOf: valve 0 is none, without valves", INDEX, DyeVats::new, vats -> vats.valveOf(0, 0));
        throwing("19 valveOf: valve 3 of three is none", INDEX, () -> valves(0), vats -> vats.valveOf(3, 0));
        throwing("19 valveOf: valve -1 is none", INDEX, vats -> vats.valveOf(-1, 0));
        throwing("19 valveOf: the least integer is no valve", INDEX, vats -> vats.valveOf(MIN, 0));
        throwing("19 valveOf: the greatest integer is no valve", INDEX, vats -> vats.valveOf(MAX, 0));
        throwing("19 valveOf: valve 8 of eight is none", INDEX, of(vats -> {
            for (int i = 0; i < 8; i++) {
                vats.valve(0, 5, 1, 0, 0);
            }
            vats.valveOf(7, 6);
        }), vats -> vats.valveOf(8, 0));
        throwing("19 valveOf: a valve that was taken away is none", INDEX, of(vats -> {
            vats.valve(0, 5, 1, 0, 0);
            vats.close(0);
        }), vats -> vats.valveOf(0, 0));
        throwing("19 valveOf: there is no property -1", ARGUMENT, vats -> vats.valveOf(0, -1));
        throwing("19 valveOf: there is no property 7", ARGUMENT, vats -> vats.valveOf(1, 7));
        throwing("19 valveOf: the least integer is no property", ARGUMENT, vats -> vats.valveOf(0, MIN));
        throwing("19 valveOf: the greatest integer is no property", ARGUMENT, vats -> vats.valveOf(0, MAX));
        throwing("19 valveOf: no such valve, ahead of no property -1", INDEX, vats -> vats.valveOf(2, -1));
        throwing("19 valveOf: no such valve, ahead of no property 7", INDEX, vats -> vats.valveOf(-1, 7));
        for (int what = 0; what <= 6; what++) {
            int of = what;
            changesNothing("19 valveOf: property " + what + " changes nothing", Boundary::full, vats -> vats.valveOf(1, of));
        }
    }

    private static void open(String name, int want, int hours, int valve) {
        answers("19 valveOf: " + name, want, () -> valves(hours), vats -> vats.valveOf(valve, 5));
    }

    private static void valveOfValues() {
        int[] due = {1, 3, 9, 2, 3, 0, 18};
        for (int what = 0; what <= 6; what++) {
            int of = what;
            answers("19 valveOf: property " + what + " of a valve", due[what], () -> valves(4), vats -> vats.valveOf(0, of));
        }
        answers("19 valveOf: out is 5", 5, () -> valves(0), vats -> vats.valveOf(1, 1));
        open("not open ahead of its first hour", 0, 1, 0);
        open("open in its first hour", 1, 2, 0);
        open("open in its last hour", 1, 3, 0);
        open("not open behind its last hour", 0, 4, 0);
        open("not open in hour 22, with hour 23 alone", 0, 22, 1);
        open("open in hour 23", 1, 23, 1);
        open("not open in hour 0, with hour 23 alone", 0, 24, 1);
        open("open in hour 0 of a new object", 1, 0, 2);
        open("not open in hour 1, with hour 0 alone", 0, 1, 2);
        open("not open in hour 23, with hour 0 alone", 0, 23, 2);
        open("open in hour 0 of the next day", 1, 24, 2);
        open("open in its first hour of the next day", 1, 26, 0);
        answers("19 valveOf: nothing moved ahead of its first hour", 0, () -> valves(2), vats -> vats.valveOf(0, 6));
        answers("19 valveOf: moved in its first hour", 9, () -> valves(3), vats -> vats.valveOf(0, 6));
        answers("19 valveOf: moved in two days, the last time just what was left", 35, () -> valves(28),
            vats -> vats.valveOf(0, 6));
    }

    private static void dyeOfArguments() {
        answers("20 dyeOf: dye 0 is the first", 50, Boundary::busy, vats -> vats.dyeOf(0, 0));
        answers("20 dyeOf: dye 2 is the last", 7, Boundary::busy, vats -> vats.dyeOf(2, 0));
        throwing("20 dyeOf: dye -1 is none", INDEX, vats -> vats.dyeOf(-1, 0));
        throwing("20 dyeOf: dye 3 is none", INDEX, vats -> vats.dyeOf(3, 0));
        throwing("20 dyeOf: the least integer is no dye", INDEX, vats -> vats.dyeOf(MIN, 0));
        throwing("20 dyeOf: the greatest integer is no dye", INDEX, vats -> vats.dyeOf(MAX, 0));
        throwing("20 dyeOf: there is no property -1", ARGUMENT, vats -> vats.dyeOf(0, -1));
        throwing("20 dyeOf: there is no property 5", ARGUMENT, vats -> vats.dyeOf(2, 5));
        throwing("20 dyeOf: the least integer is no property", ARGUMENT, vats -> vats.dyeOf(0, MIN));
        throwing("20 dyeOf: the greatest integer is no property", ARGUMENT, vats -> vats.dyeOf(0, MAX));
        throwing("20 dyeOf: no such dye, ahead of no property -1", INDEX, vats -> vats.dyeOf(3, -1));
        throwing("20 dyeOf: no such dye, ahead of no property 5", INDEX, vats -> vats.dyeOf(-1, 5));
        for (int what = 0; what <= 4; what++) {
            int of = what;
            changesNothing("20 dyeOf: property " + what + " changes nothing", Boundary::full, vats -> vats.dyeOf(0, of));
        }
    }

    private static void dyeOfValues() {
        Supplier<DyeVats> dyed = of(vats -> {
            vats.fill(0, 100);
            vats.fill(4, 100);
            vats.dye(0, 2, 30);
            vats.dye(4, 2, 15);
            vats.dye(3, 2, 9);
            vats.valve(4, 5, 20, 0, 0);
            vats.pass(1);
        });
        int[] due = {45, 32, 10, 3, 0};
        for (int what = 0; what <= 4; what++) {
            int of = what;
            answers("20 dyeOf: property " + what + ", refused grains are none", due[what], dyed, vats -> vats.dyeOf(2, of));
        }
        int[] first = {160, 125, 35, 0, 0};
        int[] step = {10, 5, 5, 0, 0};
        for (int what = 0; what <= 4; what++) {
            int of = what;
            Check.test("20 dyeOf: property " + what + " of each dye, all three in use", () -> {
                for (int dye = 0; dye < 3; dye++) {
                    Check.due("dyeOf(" + dye + ", " + of + ")", first[of] + dye * step[of], crowded().dyeOf(dye, of));
                }
            });
        }
        holds("20 dyeOf: of each dye by itself what went out", vats -> {
            vats.set(200);
            vats.fill(0, 10);
            for (int dye = 0; dye < 3; dye++) {
                vats.dye(0, dye, 20 + 10 * dye);
            }
            vats.valve(0, 5, 1, 0, 0);
            vats.pass(1);
            for (int dye = 0; dye < 3; dye++) {
                Check.due(2 + dye, vats.dyeOf(dye, 3));
            }
        });
        holds("20 dyeOf: all grains that went out stay put in", vats -> {
            vats.fill(0, 10);
            vats.dye(0, 1, 2);
            vats.valve(0, 5, 10, 0, 0);
            vats.pass(1);
            Check.due(2, vats.dyeOf(1, 0));
            Check.due(0, vats.dyeOf(1, 1));
            Check.due(0, vats.dyeOf(1, 2));
            Check.due(2, vats.dyeOf(1, 3));
        });
        holds("20 dyeOf: the grains of all five vats", vats -> {
            for (int vat = 0; vat < 5; vat++) {
                vats.fill(vat, 100);
                vats.dye(vat, 0, 21 + vat);
            }
            Check.due(115, vats.dyeOf(0, 1));
            vats.pass(1);
            Check.due(100, vats.dyeOf(0, 1));
            Check.due(15, vats.dyeOf(0, 2));
        });
    }

    private static void strongest(String name, int want, int... watersAndGrains) {
        answers("20 dyeOf: " + name, want, of(vats -> {
            for (int i = 0; i < watersAndGrains.length; i += 2) {
                if (watersAndGrains[i] > 0) {
                    vats.fill(i / 2, watersAndGrains[i]);
                }
                if (watersAndGrains[i + 1] > 0) {
                    vats.dye(i / 2, 0, watersAndGrains[i + 1]);
                }
            }
        }), vats -> vats.dyeOf(0, 4));
    }

    private static void greatestShare() {
        strongest("no vat has water, so none has the greatest share", -1);
        strongest("one vat with water has the greatest share, though it is 0", 3, 0, 0, 0, 0, 0, 0, 5, 0);
        strongest("the lowest of all with the share 0", 0, 5, 0, 6, 0, 7, 0, 8, 0, 9, 0);
        strongest("a vat without water is not the lowest", 1, 0, 0, 6, 0, 7, 0);
        strongest("one grain is more than the share 0", 4, 5, 0, 6, 0, 7, 0, 8, 0, 1000, 1);
        strongest("the last vat, 1 grain more", 4, 10, 4, 10, 4, 10, 4, 10, 4, 10, 5);
        strongest("the first vat, 1 grain more", 0, 10, 5, 10, 4, 10, 4, 10, 4, 10, 4);
        strongest("even fractions, the lowest", 1, 10, 3, 15, 6, 5, 2, 1000, 400);
        strongest("10 by 30 is more than 333 by 1000", 0, 30, 10, 1000, 333);
        strongest("334 by 1000 is more than 10 by 30", 1, 30, 10, 1000, 334);
        strongest("998 by 999 is more than 997 by 998", 1, 998, 997, 999, 998);
        strongest("997 by 998 is less than 998 by 999", 0, 999, 998, 998, 997);
        strongest("a share of more than 1", 1, 1, 2, 1, 3);
        strongest("shares of more than 1 are not rounded down", 1, 2, 4, 2, 5);
        holds("20 dyeOf: settled grains are in no share", vats -> {
            vats.fill(0, 100);
            vats.dye(0, 0, 999);
            vats.fill(1, 100);
            vats.dye(1, 0, 20);
            vats.set(19);
            vats.pass(1);
            Check.due("19 by 100 in both", 0, vats.dyeOf(0, 4));
            vats.dye(1, 0, 1);
            Check.due(1, vats.dyeOf(0, 4));
        });
        holds("20 dyeOf: all water went out, so no vat has the greatest share", vats -> {
            vats.fill(0, 100);
            vats.dye(0, 0, 50);
            vats.pass(1);
            vats.valve(0, 5, 100, 1, 1);
            vats.pass(1);
            Check.due(-1, vats.dyeOf(0, 4));
        });
        holds("20 dyeOf: the greatest share of each dye by itself", vats -> {
            for (int dye = 0; dye < 3; dye++) {
                vats.fill(dye + 1, 10);
                vats.dye(dye + 1, dye, 1);
            }
            for (int dye = 0; dye < 3; dye++) {
                Check.due(dye + 1, vats.dyeOf(dye, 4));
            }
        });
        holds("20 dyeOf: large fractions", vats -> {
            vats.capacity(0, 2000);
            vats.fill(0, 2000);
            vats.fill(1, 1);
            for (int i = 0; i < 100; i++) {
                vats.dye(0, 2, 999);
            }
            vats.dye(1, 2, 49);
            Check.due("99900 by 2000 is 49.95", 0, vats.dyeOf(2, 4));
            vats.dye(1, 2, 1);
            Check.due(1, vats.dyeOf(2, 4));
        });
    }

    private static void countArguments() {
        answers("21 count: 0 is the first number", 5, Boundary::busy, vats -> vats.count(0));
        answers("21 count: 9 is the last number", 3, Boundary::busy, vats -> vats.count(9));
        throwing("21 count: there is no number -1", ARGUMENT, vats -> vats.count(-1));
        throwing("21 count: there is no number 10", ARGUMENT, vats -> vats.count(10));
        throwing("21 count: the least integer is none", ARGUMENT, vats -> vats.count(MIN));
        throwing("21 count: the greatest integer is none", ARGUMENT, vats -> vats.count(MAX));
        for (int what = 0; what <= 9; what++) {
            int of = what;
            changesNothing("21 count: number " + what + " changes nothing", Boundary::full, vats -> vats.count(of));
        }
    }

    private static void hour(int want, int hours) {
        answers("21 count: the hour that is next behind " + hours + " hours", want, of(vats -> vats.pass(hours)),
            vats -> vats.count(0));
    }

    private static void countHours() {
        answers("21 count: the hour 0 is next at first", 0, DyeVats::new, vats -> vats.count(0));
        hour(1, 1);
        hour(22, 22);
        hour(23, 23);
        hour(0, 24);
        hour(1, 25);
        hour(23, 239);
        hour(0, 240);
        answers("21 count: hours that went by go on beyond a day", 25, of(vats -> vats.pass(25)), vats -> vats.count(1));
        answers("21 count: hours that went by by several calls", 481, of(vats -> {
            vats.pass(240);
            vats.pass(240);
            vats.pass(1);
        }), vats -> vats.count(1));
        answers("21 count: the hour that is next at the limit of hours", 15, HourBoundaries::atTheLimit,
            vats -> vats.count(0));
    }

    private static void countValues() {
        int[] due = {1, 1, 2, 3, 600, 0, 600, 0, 20, 6};
        for (int what = 0; what <= 9; what++) {
            int of = what;
            answers("21 count: number " + what + " with all vats in use", due[what], Boundary::crowded,
                vats -> vats.count(of));
        }
        answers("21 count: eight valves", 8, of(vats -> {
            for (int i = 0; i < 8; i++) {
                vats.valve(0, 5, 1, 0, 0);
            }
        }), vats -> vats.count(2));
        answers("21 count: a pipe is one, not two", 1, of(vats -> vats.pipe(4, 0)), vats -> vats.count(3));
        answers("21 count: water of all five vats, full", 10000, of(vats -> {
            for (int vat = 0; vat < 5; vat++) {
                vats.capacity(vat, 2000);
                vats.fill(vat, 2000);
            }
        }), vats -> vats.count(4));
        holds("21 count: water that went out is not in the vats, but was filled in", vats -> {
            vats.fill(0, 10);
            vats.valve(0, 5, 3, 0, 23);
            vats.pass(2);
            Check.due(4, vats.count(4));
            Check.due(6, vats.count(5));
            Check.due(10, vats.count(6));
            vats.pass(2);
            Check.due(0, vats.count(4));
            Check.due(10, vats.count(5));
            Check.due(10, vats.count(6));
        });
        holds("21 count: water that goes to another vat is not filled in", vats -> {
            vats.fill(0, 10);
            vats.valve(0, 1, 3, 0, 23);
            vats.pass(2);
            Check.due(10, vats.count(4));
            Check.due(0, vats.count(5));
            Check.due(10, vats.count(6));
        });
        holds("21 count: each of the three that can be refused", vats -> {
            vats.fill(0, 1001);
            Check.due(1, vats.count(7));
            vats.dye(0, 0, 1);
            Check.due(2, vats.count(7));
            vats.fill(0, 2);
            vats.capacity(0, 1);
            Check.due(3, vats.count(7));
        });
        holds("21 count: a call that throws is not refused", vats -> {
            Check.dueThrow(ARGUMENT, () -> vats.fill(0, 2001));
            Check.dueThrow(INDEX, () -> vats.dye(5, 0, 1));
            Check.dueThrow(ARGUMENT, () -> vats.capacity(0, 0));
            Check.due(0, vats.count(7));
        });
        holds("21 count: six saved states are the most", vats -> {
            for (int i = 1; i <= 8; i++) {
                vats.stir(0);
                Check.due(Math.min(i, 6), vats.count(9));
            }
        });
    }
}
