import java.util.function.Supplier;

/** The boundary cases of promises 22 to 27. */
final class WouldBeBoundaries extends Boundary {
    private WouldBeBoundaries() { }

    static void run() {
        ifPassedArguments();
        ifPassedValues();
        emptyInArguments();
        emptyInHours();
        roundArguments();
        roundValues();
        roundLooks();
        mainValveTies();
        mainValveHours();
        goneShare();
        digestValues();
        nothingChanges();
    }

    private static void ifPassedArguments() {
        answers("22 ifPassed: 1 hour is the least", 9, WouldBeBoundaries::draining, vats -> vats.ifPassed(1, 0, 1));
        answers("22 ifPassed: 240 hours are the most", 0, WouldBeBoundaries::draining, vats -> vats.ifPassed(240, 0, 1));
        throwing("22 ifPassed: 0 hours are too few", ARGUMENT, vats -> vats.ifPassed(0, 0, 1));
        throwing("22 ifPassed: -1 hours are too few", ARGUMENT, vats -> vats.ifPassed(-1, 0, 1));
        throwing("22 ifPassed: 241 hours are too many", ARGUMENT, vats -> vats.ifPassed(241, 0, 1));
        throwing("22 ifPassed: the least integer is too few", ARGUMENT, vats -> vats.ifPassed(MIN, 0, 1));
        throwing("22 ifPassed: the greatest integer is too many", ARGUMENT, vats -> vats.ifPassed(MAX, 0, 1));
        answers("22 ifPassed: vat 0 is the first", 8, WouldBeBoundaries::draining, vats -> vats.ifPassed(2, 0, 1));
        answers("22 ifPassed: vat 4 is the last", 2, WouldBeBoundaries::draining, vats -> vats.ifPassed(2, 4, 1));
        throwing("22 ifPassed: vat -1 is none", INDEX, vats -> vats.ifPassed(1, -1, 1));
        throwing("22 ifPassed: vat 5 is none, for out is no vat", INDEX, vats -> vats.ifPassed(1, 5, 1));
        throwing("22 ifPassed: the least integer is no vat", INDEX, vats -> vats.ifPassed(1, MIN, 1));
        throwing("22 ifPassed: the greatest integer is no vat", INDEX, vats -> vats.ifPassed(1, MAX, 1));
        answers("22 ifPassed: 1 is the first property", 7, WouldBeBoundaries::draining, vats -> vats.ifPassed(3, 0, 1));
        answers("22 ifPassed: 7 is the last property", 30, of(vats -> {
            vats.fill(0, 100);
            vats.dye(0, 2, 50);
        }), vats -> vats.ifPassed(1, 0, 7));
        throwing("22 ifPassed: it does not tell 0, the capacity", ARGUMENT, vats -> vats.ifPassed(1, 0, 0));
        throwing("22 ifPassed: it does not tell 8, the pipes", ARGUMENT, vats -> vats.ifPassed(1, 0, 8));
        throwing("22 ifPassed: it does not tell 9, what can be held", ARGUMENT, vats -> vats.ifPassed(1, 0, 9));
        throwing("22 ifPassed: there is no property -1", ARGUMENT, vats -> vats.ifPassed(1, 0, -1));
        throwing("22 ifPassed: the least integer is no property", ARGUMENT, vats -> vats.ifPassed(1, 0, MIN));
        throwing("22 ifPassed: the greatest integer is no property", ARGUMENT, vats -> vats.ifPassed(1, 0, MAX));
        throwing("22 ifPassed: no such vat, ahead of too few hours", INDEX, vats -> vats.ifPassed(0, 5, 1));
        throwing("22 ifPassed: no such vat, ahead of too many hours", INDEX, vats -> vats.ifPassed(241, -1, 1));
        throwing("22 ifPassed: no such vat, ahead of no property 0", INDEX, vats -> vats.ifPassed(1, 5, 0));
        throwing("22 ifPassed: no such vat, ahead of no property 8", INDEX, vats -> vats.ifPassed(1, -1, 8));
    }

    /** 10 water of vat 0 go to vat 4 in 10 hours. */
    private static DyeVats draining() {
        DyeVats vats = new DyeVats();
        vats.fill(0, 10);
        vats.valve(0, 4, 1, 0, 23);
        return vats;
    }

    private static void ifPassedValues() {
        int[] due = {30, 6, 4, 6, 32, 0, 4};
        Supplier<DyeVats> recipe = of(vats -> {
            vats.fill(0, 50);
            vats.dye(0, 0, 50);
            vats.dye(0, 1, 6);
            vats.dye(0, 2, 15);
            vats.valve(0, 5, 10, 0, 1);
        });
        for (int what = 1; what <= 7; what++) {
            int of = what;
            Check.test("22 ifPassed: property " + what + ", as it comes about then", () -> {
                DyeVats vats = recipe.get();
                Check.due("ifPassed", due[of - 1], vats.ifPassed(2, 0, of));
                vats.pass(2);
                Check.due("vatOf", due[of - 1], vats.vatOf(0, of));
            });
        }
        answers("22 ifPassed: the hour that is next counts, not the hour 0", 10, of(vats -> {
            vats.pass(23);
            vats.fill(0, 10);
            vats.valve(0, 5, 1, 22, 22);
        }), vats -> vats.ifPassed(23, 0, 1));
        answers("22 ifPassed: the 24th hour is the last of a day", 9, of(vats -> {
            vats.pass(23);
            vats.fill(0, 10);
            vats.valve(0, 5, 1, 22, 22);
        }), vats -> vats.ifPassed(24, 0, 1));
        Check.test("22 ifPassed: the limit of hours does not matter", () -> {
            DyeVats vats = HourBoundaries.atTheLimit();
            Check.dueThrow(STATE, () -> vats.pass(1));
            vats.valve(0, 5, 1, 14, 14);
            Check.due("hour 15 to hour 13", 1, vats.ifPassed(23, 0, 1));
            Check.due("and hour 14", 0, vats.ifPassed(24, 0, 1));
            Check.due(0, vats.ifPassed(240, 0, 1));
            Check.due(99999, vats.count(1));
        });
        Check.test("22 ifPassed: two times are not one behind the other", () -> {
            DyeVats vats = draining();
            Check.due(9, vats.ifPassed(1, 0, 1));
            Check.due(9, vats.ifPassed(1, 0, 1));
        });
    }

    private static void emptyInArguments() {
        answers("23 emptyIn: vat 0 is the first", 0, DyeVats::new, vats -> vats.emptyIn(0));
        answers("23 emptyIn: vat 4 is the last", 0, DyeVats::new, vats -> vats.emptyIn(4));
        throwing("23 emptyIn: vat -1 is none", INDEX, vats -> vats.emptyIn(-1));
        throwing("23 emptyIn: vat 5 is none, for out is no vat", INDEX, vats -> vats.emptyIn(5));
        throwing("23 emptyIn: the least integer is no vat", INDEX, vats -> vats.emptyIn(MIN));
        throwing("23 emptyIn: the greatest integer is no vat", INDEX, vats -> vats.emptyIn(MAX));
    }

    private static void empty(String name, int want, int water, int rate) {
        answers("23 emptyIn: " + name, want, of(vats -> {
            vats.fill(4, water);
            vats.valve(4, 5, rate, 0, 23);
        }), vats -> vats.emptyIn(4));
    }

    private static void emptyInHours() {
        answers("23 emptyIn: 0 hours, as it is empty now", 0, of(vats -> {
            vats.fill(0, 10);
            vats.valve(0, 1, 1, 0, 23);
        }), vats -> vats.emptyIn(1));
        empty("1 hour, with the rate of all its water", 1, 7, 7);
        empty("2 hours, with 1 water more", 2, 8, 7);
        empty("239 hours", 239, 239, 1);
        empty("240 hours are the most", 240, 240, 1);
        empty("241 hours are not told", -1, 241, 1);
        answers("23 emptyIn: never, without a valve", -1, of(vats -> vats.fill(0, 1)), vats -> vats.emptyIn(0));
        answers("23 emptyIn: the first time of several", 1, of(vats -> {
            vats.fill(0, 10);
            vats.valve(0, 1, 10, 0, 0);
            vats.valve(1, 0, 10, 3, 3);
        }), vats -> vats.emptyIn(0));
        answers("23 emptyIn: the other one of two that change their water", 4, of(vats -> {
            vats.fill(0, 10);
            vats.fill(1, 5);
            vats.valve(0, 1, 10, 0, 0);
            vats.valve(1, 0, 15, 3, 3);
        }), vats -> vats.emptyIn(1));
        answers("23 emptyIn: not within an hour, at whose end there is water again", -1, of(vats -> {
            vats.fill(0, 5);
            vats.valve(0, 1, 5, 0, 23);
            vats.valve(1, 0, 5, 0, 23);
        }), vats -> vats.emptyIn(0));
        answers("23 emptyIn: the hours count from the one that is next", 24, of(vats -> {
            vats.fill(0, 5);
            vats.valve(0, 5, 5, 6, 6);
            vats.pass(7);
            vats.fill(0, 5);
        }), vats -> vats.emptyIn(0));
        answers("23 emptyIn: settled grains are not water", 1, of(vats -> {
            vats.fill(0, 5);
            vats.dye(0, 0, 9);
            vats.valve(0, 5, 5, 0, 0);
        }), vats -> vats.emptyIn(0));
        Check.test("23 emptyIn: the limit of hours does not matter", () -> {
            DyeVats vats = HourBoundaries.atTheLimit();
            Check.due(-1, vats.emptyIn(0));
            vats.fill(0, 9);
            vats.valve(0, 5, 1, 14, 14);
            Check.due("24 hours ten times", 240, vats.emptyIn(0));
        });
    }

    /** Water goes from vat 1 to 2 to 3 and over 0 to 1 again, a vat in a day; vat 4 gives 1 water in a day. */
    private static Supplier<DyeVats> threeDays(int water) {
        return of(vats -> {
            vats.fill(1, 10);
            vats.valve(3, 0, 10, 0, 0);
            vats.valve(2, 3, 10, 0, 0);
            vats.valve(1, 2, 10, 0, 0);
            vats.valve(0, 1, 10, 0, 0);
            drain(vats, 4, water);
        });
    }

    /** Water goes from vat 1 to 2 and over 0 to 1 again. */
    private static Supplier<DyeVats> twoDays(int water) {
        return of(vats -> {
            vats.fill(1, 10);
            vats.valve(2, 0, 10, 0, 0);
            vats.valve(1, 2, 10, 0, 0);
            vats.valve(0, 1, 10, 0, 0);
            drain(vats, 4, water);
        });
    }

    private static Supplier<DyeVats> oneDay(int water) {
        return of(vats -> drain(vats, 0, water));
    }

    private static void drain(DyeVats vats, int vat, int water) {
        if (water > 0) {
            vats.fill(vat, water);
        }
        vats.valve(vat, 5, 1, 5, 5);
    }

    /** Each of the four on an object of its own, so that none can lean on another one. */
    private static void rounds(String name, int round, int lead, Supplier<DyeVats> recipe) {
        answers("24 round: " + name + ", by two runners", round, recipe, vats -> vats.round(0));
        answers("24 round: " + name + ", its lead by two runners", lead, recipe, vats -> vats.round(1));
        answers("24 round: " + name + ", by looking back", round, recipe, vats -> vats.round(2));
        answers("24 round: " + name + ", its lead by looking back", lead, recipe, vats -> vats.round(3));
    }

    private static void roundArguments() {
        answers("24 round: 0 is the first", 1, DyeVats::new, vats -> vats.round(0));
        answers("24 round: 3 is the last", 0, DyeVats::new, vats -> vats.round(3));
        throwing("24 round: -1 is none", ARGUMENT, vats -> vats.round(-1));
        throwing("24 round: 4 is none", ARGUMENT, vats -> vats.round(4));
        throwing("24 round: the least integer is none", ARGUMENT, vats -> vats.round(MIN));
        throwing("24 round: the greatest integer is none", ARGUMENT, vats -> vats.round(MAX));
        throwing("24 round: 4 is none, though no look comes again", ARGUMENT, oneDay(100), vats -> vats.round(4));
    }

    private static void roundValues() {
        rounds("1 without a lead, if nothing changes", 1, 0, DyeVats::new);
        rounds("1 behind a lead of 1", 1, 1, oneDay(1));
        rounds("1 behind a lead of 58", 1, 58, oneDay(58));
        rounds("1 behind a lead of 59, within 60 days", 1, 59, oneDay(59));
        rounds("none, if 1 had a lead of 60", -1, -1, oneDay(60));
        rounds("none, if 1 had a lead of 61", -1, -1, oneDay(61));
        rounds("none, if 1 had a lead of 1000", -1, -1, oneDay(1000));
        rounds("2 without a lead", 2, 0, twoDays(0));
        rounds("2 behind a lead of 1", 2, 1, twoDays(1));
        rounds("2 behind a lead of 57", 2, 57, twoDays(57));
        rounds("2 behind a lead of 58, within 60 days", 2, 58, twoDays(58));
        rounds("none, if 2 had a lead of 59", -1, -1, twoDays(59));
        rounds("none, if 2 had a lead of 60", -1, -1, twoDays(60));
        rounds("3 without a lead", 3, 0, threeDays(0));
        rounds("3 behind a lead of 1", 3, 1, threeDays(1));
        rounds("3 behind a lead of 2", 3, 2, threeDays(2));
        rounds("3 behind a lead of 3", 3, 3, threeDays(3));
        rounds("3 behind a lead of 4", 3, 4, threeDays(4));
        rounds("3 behind a lead of 55", 3, 55, threeDays(55));
        rounds("3 behind a lead of 56", 3, 56, threeDays(56));
        rounds("3 behind a lead of 57, within 60 days", 3, 57, threeDays(57));
        rounds("none, if 3 had a lead of 58", -1, -1, threeDays(58));
        rounds("none, if 3 had a lead of 59", -1, -1, threeDays(59));
        rounds("none, if 3 had a lead of 60", -1, -1, threeDays(60));
        rounds("4 without a lead", 4, 0, of(vats -> {
            vats.fill(1, 10);
            vats.valve(4, 0, 10, 0, 0);
            vats.valve(3, 4, 10, 0, 0);
            vats.valve(2, 3, 10, 0, 0);
            vats.valve(1, 2, 10, 0, 0);
            vats.valve(0, 1, 10, 0, 0);
        }));
        rounds("6 behind a lead of 5", 6, 5, of(vats -> {
            vats.set(200);
            vats.fill(1, 29);
            vats.fill(4, 37);
            vats.dye(4, 0, 22);
            vats.valve(1, 2, 15, 2, 3);
            vats.valve(2, 4, 4, 2, 2);
            vats.valve(4, 1, 57, 2, 2);
            vats.valve(0, 1, 7, 0, 0);
            vats.valve(3, 4, 34, 1, 1);
            vats.valve(4, 0, 24, 0, 0);
            vats.pipe(2, 3);
        }));
        rounds("the days begin with the hour that is next", 3, 1, of(vats -> {
            vats.fill(1, 10);
            vats.valve(3, 0, 10, 0, 0);
            vats.valve(2, 3, 10, 0, 0);
            vats.valve(1, 2, 10, 0, 0);
            vats.valve(0, 1, 10, 0, 0);
            drain(vats, 4, 2);
            vats.pass(6);
        }));
        for (int what = 0; what <= 3; what++) {
            int of = what;
            Check.test("24 round: " + what + " asked again when the vats have changed", () -> {
                DyeVats vats = threeDays(7).get();
                Check.due("at first", of % 2 == 0 ? 3 : 7, vats.round(of));
                vats.fill(4, 51);
                Check.due("beyond 60 days", -1, vats.round(of));
                vats.pass(24);
                Check.due("within 60 days", of % 2 == 0 ? 3 : 57, vats.round(of));
            });
        }
        Check.test("24 round: the limit of hours does not matter", () -> {
            DyeVats vats = HourBoundaries.atTheLimit();
            drain(vats, 1, 7);
            for (int what = 0; what <= 3; what++) {
                Check.due("round " + what, what % 2 == 0 ? 1 : 7, vats.round(what));
            }
        });
    }

    private static void roundLooks() {
        for (int vat = 0; vat < 5; vat++) {
            int of = vat;
            rounds("the water of vat " + vat + " is in the look", 1, 3, of(vats -> drain(vats, of, 3)));
        }
        for (int dye = 0; dye < 3; dye++) {
            int of = dye;
            rounds("dissolved grains of dye " + dye + " are in the look, though all water comes again", 2, 0, of(vats -> {
                vats.set(200);
                for (int vat = 1; vat <= 2; vat++) {
                    vats.fill(vat, 10);
                }
                vats.dye(1, of, 5);
                vats.valve(2, 0, 10, 0, 0);
                vats.valve(1, 2, 10, 0, 0);
                vats.valve(0, 1, 10, 0, 0);
            }));
            rounds("grains of dye " + dye + " that settle are in the look", 1, 1, of(vats -> {
                vats.fill(4, 100);
                vats.dye(4, of, 21);
            }));
        }
        rounds("what a valve has moved and the hours that went by are not in the look", 2, 0, of(vats -> {
            vats.fill(0, 9);
            vats.fill(1, 9);
            vats.dye(0, 0, 1);
            vats.valve(1, 2, 9, 0, 0);
            vats.valve(0, 1, 9, 0, 0);
            vats.valve(2, 0, 9, 0, 0);
        }));
    }

    private static void mainValveTies() {
        answers("25 mainValve: none without valves", -1, DyeVats::new, DyeVats::mainValve);
        answers("25 mainValve: none without valves, though there is water", -1, Boundary::undyed, DyeVats::mainValve);
        answers("25 mainValve: none when all were taken away", -1, of(vats -> {
            vats.valve(0, 5, 1, 0, 0);
            vats.close(0);
        }), DyeVats::mainValve);
        answers("25 mainValve: the only one, though nothing goes out", 0, of(vats -> vats.valve(0, 1, 1, 0, 0)),
            DyeVats::mainValve);
        answers("25 mainValve: the lowest, if nothing goes out by any", 0, of(vats -> {
            for (int i = 0; i < 8; i++) {
                vats.valve(0, 5, 1, 0, 0);
            }
        }), DyeVats::mainValve);
        answers("25 mainValve: the first of eight, by 1 water", 0, () -> outByRates(3, 2, 2, 2, 2, 2, 2, 2),
            DyeVats::mainValve);
        answers("25 mainValve: the last of eight, by 1 water", 7, () -> outByRates(2, 2, 2, 2, 2, 2, 2, 3),
            DyeVats::mainValve);
        answers("25 mainValve: the lowest of several", 1, () -> outByRates(2, 3, 1, 3, 3), DyeVats::mainValve);
        answers("25 mainValve: the lowest, if each makes up for the other one", 0, of(vats -> {
            vats.fill(0, 5);
            vats.valve(0, 5, 100, 3, 3);
            vats.valve(0, 5, 500, 4, 4);
        }), DyeVats::mainValve);
        answers("25 mainValve: not one without which more would go out", 1, of(vats -> {
            vats.fill(0, 10);
            vats.valve(0, 1, 10, 0, 0);
            vats.valve(0, 5, 10, 0, 0);
        }), DyeVats::mainValve);
        answers("25 mainValve: one that goes to another vat, by what goes out behind it", 1, of(vats -> {
            vats.fill(0, 50);
            vats.fill(1, 10);
            vats.valve(1, 5, 10, 0, 0);
            vats.valve(0, 2, 50, 1, 1);
            vats.valve(2, 5, 40, 2, 2);
            vats.valve(2, 5, 40, 3, 3);
        }), DyeVats::mainValve);
    }

    private static DyeVats outByRates(int... rates) {
        DyeVats vats = new DyeVats();
        vats.fill(2, 500);
        for (int rate : rates) {
            vats.valve(2, 5, rate, 7, 7);
        }
        return vats;
    }

    /** It is ahead of hour 6: valve 0 gives out 3 in hour 6, valve 1 gives out 4 in the hour told. */
    private static DyeVats outAt(int hour) {
        DyeVats vats = new DyeVats();
        vats.pass(6);
        vats.fill(0, 1000);
        vats.valve(0, 5, 3, 6, 6);
        vats.valve(0, 5, 4, hour, hour);
        return vats;
    }

    private static void mainValveHours() {
        answers("25 mainValve: the hour that is next counts", 1, () -> outAt(6), DyeVats::mainValve);
        answers("25 mainValve: the 24th hour counts", 1, () -> outAt(5), DyeVats::mainValve);
        answers("25 mainValve: the 25th hour does not count", 1, of(vats -> {
            vats.pass(6);
            vats.fill(0, 1000);
            vats.valve(0, 5, 3, 6, 6);
            vats.valve(0, 5, 5, 7, 7);
        }), DyeVats::mainValve);
        answers("25 mainValve: what goes out behind the 24th hour does not count", 0, of(vats -> {
            vats.fill(0, 10);
            vats.fill(1, 10);
            vats.valve(0, 5, 1, 0, 0);
            vats.valve(1, 2, 10, 23, 23);
            vats.valve(2, 5, 10, 0, 0);
        }), DyeVats::mainValve);
        answers("25 mainValve: what went out before does not count", 1, of(vats -> {
            vats.fill(0, 5);
            vats.fill(1, 5);
            vats.valve(0, 5, 5, 0, 0);
            vats.valve(1, 5, 1, 0, 23);
            vats.pass(1);
        }), DyeVats::mainValve);
        Check.test("25 mainValve: the limit of hours does not matter", () -> {
            DyeVats vats = HourBoundaries.atTheLimit();
            vats.fill(0, 99);
            vats.valve(0, 5, 1, 13, 13);
            vats.valve(0, 5, 2, 14, 14);
            Check.due(1, vats.mainValve());
        });
        holds("25 mainValve: no valve is taken away by it", vats -> {
            vats.valve(0, 5, 1, 0, 0);
            vats.valve(0, 5, 2, 0, 0);
            vats.mainValve();
            Check.due(2, vats.count(2));
            Check.due(2, vats.valveOf(1, 2));
        });
    }

    private static void share(String name, double want, Supplier<DyeVats> recipe) {
        Check.test("26 goneShare: " + name, () -> Check.dueDouble(want, recipe.get().goneShare()));
    }

    /** Each grain has 1 water; this many of them go out. */
    private static DyeVats gone(int grains, int out) {
        DyeVats vats = new DyeVats();
        vats.set(200);
        vats.fill(0, grains);
        vats.dye(0, 1, grains);
        if (out > 0) {
            vats.valve(0, 5, out, 0, 0);
        }
        vats.pass(1);
        return vats;
    }

    private static void goneShare() {
        share("0.0 without any grains", 0.0, DyeVats::new);
        share("0.0 without any grains, though water went out", 0.0, of(vats -> {
            vats.fill(0, 5);
            vats.valve(0, 5, 5, 0, 0);
            vats.pass(1);
        }));
        share("0.0 if all grains were refused", 0.0, of(vats -> vats.dye(0, 0, 5)));
        share("0.0 if none went out", 0.0, () -> gone(7, 0));
        share("1.0 if all went out", 1.0, () -> gone(7, 7));
        share("a third is no integer", 1.0 / 3.0, () -> gone(3, 1));
        share("1 of 999", 1.0 / 999.0, () -> gone(999, 1));
        share("499 of 999", 499.0 / 999.0, () -> gone(999, 499));
        share("a half", 0.5, () -> gone(998, 499));
        share("grains of all dyes, also of those that stay", 5.0 / 16.0, of(vats -> {
            vats.fill(0, 10);
            vats.fill(1, 10);
            vats.dye(0, 0, 2);
            vats.dye(0, 1, 1);
            vats.dye(0, 2, 2);
            vats.dye(1, 1, 11);
            vats.valve(0, 5, 10, 0, 0);
            vats.pass(1);
        }));
        share("of each dye another number", 10.0 / 108.0, of(vats -> {
            vats.set(200);
            vats.fill(0, 10);
            vats.dye(0, 0, 20);
            vats.dye(0, 1, 30);
            vats.dye(0, 2, 58);
            vats.valve(0, 5, 1, 0, 0);
            vats.pass(1);
        }));
        share("settled grains did not go out", 0.25, of(vats -> {
            vats.fill(0, 100);
            vats.dye(0, 0, 80);
            vats.pass(1);
            vats.valve(0, 5, 100, 1, 1);
            vats.pass(1);
        }));
        share("refused grains were not put in", 1.0, of(vats -> {
            vats.dye(1, 0, 100);
            vats.fill(0, 5);
            vats.dye(0, 0, 1);
            vats.valve(0, 5, 5, 0, 0);
            vats.pass(1);
            vats.dye(0, 0, 999);
        }));
        share("0.0 again when it is undone", 0.0, of(vats -> {
            vats.fill(0, 5);
            vats.dye(0, 0, 1);
            vats.valve(0, 5, 5, 0, 0);
            vats.pass(1);
            vats.undo();
        }));
    }

    private static void digest(String name, Supplier<DyeVats> recipe, boolean slot0, boolean slot1, String buffer) {
        Check.test("27 digest: " + name, () -> {
            DyeVats vats = recipe.get();
            Check.due(WouldBeTest.digestByFace(vats, slot0, slot1, buffer), vats.digest());
        });
    }

    private static void digestValues() {
        digest("of a new object", DyeVats::new, false, false, "");
        digest("of something of everything", Boundary::busy, true, true, "0>1*1@0-0");
        digest("with six saved states", Boundary::full, true, true, "0>1*1@0-0");
        digest("slot 0 alone", of(vats -> vats.keep(0)), true, false, "");
        digest("slot 1 alone", of(vats -> vats.keep(1)), false, true, "");
        digest("a buffer of 1 character", of(vats -> type(vats, "~")), false, false, "~");
        digest("a buffer of 60 characters", of(vats -> type(vats, "!0".repeat(30))), false, false, "!0".repeat(30));
        digest("a buffer that was cleared", of(vats -> {
            type(vats, "xyz");
            vats.clearBuffer();
            type(vats, "a");
        }), false, false, "a");
        digest("eight valves", () -> outByRates(2, 2, 2, 2, 2, 2, 2, 3), false, false, "");
        digest("of eight valves none any more", of(vats -> {
            for (int i = 0; i < 8; i++) {
                vats.valve(0, 5, 1, 0, 0);
            }
            for (int i = 0; i < 8; i++) {
                vats.close(0);
            }
        }), false, false, "");
        digest("no look that comes again", oneDay(1000), false, false, "");
        digest("a lead of 57 days", threeDays(57), false, false, "");
        for (int out : new int[] {1, 2, 3, 250, 499, 500}) {
            digest("the bits of the share of " + out + " of 999", () -> gone(999, out), false, false, "");
        }
        digest("the bits of the share 1.0", () -> gone(7, 7), false, false, "");
        digest("the bits of the share 0.5", () -> gone(8, 4), false, false, "");
        digest("the bits of the share 0.0, of grains that stay", () -> gone(8, 0), false, false, "");
    }

    private static void nothingChanges() {
        changesNothing("22 ifPassed: it changes nothing", Boundary::full, vats -> vats.ifPassed(240, 0, 1));
        changesNothing("23 emptyIn: it changes nothing", Boundary::full, vats -> vats.emptyIn(0));
        for (int what = 0; what <= 3; what++) {
            int of = what;
            changesNothing("24 round: " + what + " changes nothing", Boundary::full, vats -> vats.round(of));
        }
        changesNothing("25 mainValve: it changes nothing", Boundary::full, DyeVats::mainValve);
        changesNothing("26 goneShare: it changes nothing", Boundary::full, vats -> (long) vats.goneShare());
        changesNothing("27 digest: it changes nothing", Boundary::full, DyeVats::digest);
    }
}
