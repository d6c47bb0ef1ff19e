/** The boundary cases of promises 1 to 5. */
final class VatBoundaries extends Boundary {
    private VatBoundaries() { }

    static void run() {
        newVats();
        newRest();
        fillArguments();
        fillRoom();
        dyeArguments();
        dyeWater();
        dyeLimit();
        stirArguments();
        stirLimit();
        capacityArguments();
        capacityWater();
    }

    private static void newVats() {
        holds("1 new object: each vat has a capacity of 1000", vats -> dueOfVats(vats, 0, 0, 1000));
        holds("1 new object: no vat has water", vats -> dueOfVats(vats, 1, 1, 0));
        holds("1 new object: no vat has dissolved grains", vats -> dueOfVats(vats, 2, 4, 0));
        holds("1 new object: no vat has settled grains", vats -> dueOfVats(vats, 5, 7, 0));
        holds("1 new object: no vat has a pipe", vats -> {
            dueOfVats(vats, 8, 8, 0);
            Check.due(0, vats.count(3));
        });
        holds("1 new object: there is a fifth vat and no sixth one", vats -> {
            Check.due(1000, vats.vatOf(4, 0));
            Check.dueThrow(INDEX, () -> vats.vatOf(5, 0));
        });
        holds("1 new object: there is a third dye and no fourth one", vats -> {
            Check.due(0, vats.dyeOf(2, 0));
            Check.dueThrow(INDEX, () -> vats.dyeOf(3, 0));
        });
    }

    private static void dueOfVats(DyeVats vats, int first, int last, int want) {
        for (int vat = 0; vat < 5; vat++) {
            for (int what = first; what <= last; what++) {
                Check.due("vatOf(" + vat + ", " + what + ")", want, vats.vatOf(vat, what));
            }
        }
    }

    private static void newRest() {
        holds("1 new object: there is no valve", vats -> {
            Check.due(0, vats.count(2));
            Check.dueThrow(INDEX, () -> vats.valveOf(0, 0));
            Check.dueThrow(INDEX, () -> vats.close(0));
        });
        holds("1 new object: slot 0 is empty", vats -> Check.dueThrow(STATE, () -> vats.goBack(0)));
        holds("1 new object: slot 1 is empty", vats -> Check.dueThrow(STATE, () -> vats.goBack(1)));
        holds("1 new object: the buffer is empty", vats -> Check.due(0, vats.clearBuffer()));
        holds("1 new object: no state is saved", vats -> {
            Check.due(0, vats.count(9));
            Check.dueThrow(STATE, () -> vats.undo());
        });
        holds("1 new object: the setting is 20", vats -> Check.due(20, vats.count(8)));
        holds("1 new object: it is ahead of hour 0, and no hour has gone by", vats -> {
            Check.due(0, vats.count(0));
            Check.due(0, vats.count(1));
        });
        holds("1 new object: no water was filled in or went out, nothing was refused", vats -> {
            for (int what = 4; what <= 7; what++) {
                Check.due("count " + what, 0, vats.count(what));
            }
        });
        holds("1 new object: no dye was put in or went out", vats -> {
            for (int dye = 0; dye < 3; dye++) {
                for (int what = 0; what <= 3; what++) {
                    Check.due("dyeOf(" + dye + ", " + what + ")", 0, vats.dyeOf(dye, what));
                }
            }
        });
        Check.test("1 new object: it shares nothing with one from before", () -> {
            full();
            DyeVats vats = new DyeVats();
            for (int what = 0; what <= 9; what++) {
                Check.due("count " + what, what == 8 ? 20 : 0, vats.count(what));
            }
            dueOfVats(vats, 0, 0, 1000);
            dueOfVats(vats, 1, 9, 0);
            Check.dueThrow(STATE, () -> vats.goBack(0));
            Check.dueThrow(STATE, () -> vats.goBack(1));
            Check.due(0, vats.clearBuffer());
        });
    }

    private static void fillArguments() {
        answers("2 fill: vat 0 is the first", 7, DyeVats::new, vats -> vats.fill(0, 7));
        answers("2 fill: vat 4 is the last", 7, DyeVats::new, vats -> vats.fill(4, 7));
        throwing("2 fill: vat -1 is none", INDEX, vats -> vats.fill(-1, 1));
        throwing("2 fill: vat 5 is none, for out is no vat", INDEX, vats -> vats.fill(5, 1));
        throwing("2 fill: the least integer is no vat", INDEX, vats -> vats.fill(MIN, 1));
        throwing("2 fill: the greatest integer is no vat", INDEX, vats -> vats.fill(MAX, 1));
        answers("2 fill: water 1 is the least", 1, DyeVats::new, vats -> vats.fill(2, 1));
        throwing("2 fill: water 0 is too little", ARGUMENT, vats -> vats.fill(2, 0));
        throwing("2 fill: water -1 is too little", ARGUMENT, vats -> vats.fill(2, -1));
        throwing("2 fill: the least integer is too little", ARGUMENT, vats -> vats.fill(2, MIN));
        answers("2 fill: water 2000 is the most", 2000, of(vats -> vats.capacity(2, 2000)), vats -> vats.fill(2, 2000));
        throwing("2 fill: water 2001 is too much, not refused", ARGUMENT, vats -> vats.fill(2, 2001));
        throwing("2 fill: water 2001 is too much for a full vat, too", ARGUMENT, of(vats -> vats.fill(2, 1000)),
            vats -> vats.fill(2, 2001));
        throwing("2 fill: the greatest integer is too much", ARGUMENT, vats -> vats.fill(0, MAX));
        throwing("2 fill: no such vat, ahead of too little water", INDEX, vats -> vats.fill(5, 0));
        throwing("2 fill: no such vat, ahead of too much water", INDEX, vats -> vats.fill(-1, 2001));
    }

    private static void fillRoom() {
        answers("2 fill: all the room of an empty vat", 1000, DyeVats::new, vats -> vats.fill(0, 1000));
        refused("2 fill: 1 more than the room of an empty vat", DyeVats::new, vats -> vats.fill(0, 1001));
        refused("2 fill: 2000 into an empty vat of 1000", DyeVats::new, vats -> vats.fill(0, 2000));
        answers("2 fill: all the room that is left, told is the water then", 1000, of(vats -> vats.fill(4, 400)),
            vats -> vats.fill(4, 600));
        refused("2 fill: 1 more than the room that is left", of(vats -> vats.fill(4, 400)), vats -> vats.fill(4, 601));
        refused("2 fill: 1 into a full vat", of(vats -> vats.fill(3, 1000)), vats -> vats.fill(3, 1));
        answers("2 fill: all of a capacity of 1", 1, of(vats -> vats.capacity(1, 1)), vats -> vats.fill(1, 1));
        refused("2 fill: 2 into a capacity of 1", of(vats -> vats.capacity(1, 1)), vats -> vats.fill(1, 2));
        refused("2 fill: 1 into a capacity that was lowered to the water", of(vats -> {
            vats.fill(0, 30);
            vats.capacity(0, 30);
        }), vats -> vats.fill(0, 1));
        refused("2 fill: refused with three saved states", Boundary::busy, vats -> vats.fill(4, 71));
        refused("2 fill: refused with six saved states, of which the oldest is dropped", Boundary::full,
            vats -> vats.fill(4, 71));
        holds("2 fill: refused, it is not in the water that was filled in", vats -> {
            vats.fill(0, 1000);
            vats.fill(0, 1);
            Check.due(1000, vats.count(6));
            Check.due(1000, vats.count(4));
            Check.due(1000, vats.vatOf(0, 1));
        });
        holds("2 fill: the 512th call of an object is as good as the first one", vats -> {
            for (int call = 1; call <= 512; call++) {
                Check.due(call, vats.fill(0, 1));
            }
        });
        Check.test("2 fill: one vat alone, and nothing in it but its water", () -> {
            for (int vat = 0; vat < 5; vat++) {
                DyeVats vats = crowded();
                Check.due(101 + 10 * vat, vats.fill(vat, 1));
                dueOthers(vats, vat);
                dueButOne(vats, vat, 1, 101 + 10 * vat);
            }
        });
        holds("2 fill: the water that was filled in adds up, in all vats", vats -> {
            vats.fill(0, 5);
            vats.fill(0, 6);
            vats.fill(4, 7);
            Check.due(18, vats.count(6));
        });
        undoable("2 fill", vats -> vats.fill(2, 1));
    }

    /** One property of the vat, and no other one, is another one than a crowded object has. */
    private static void dueButOne(DyeVats vats, int vat, int changed, int want) {
        for (int what = 0; what <= 8; what++) {
            int due = what == changed ? want : crowdedVat(vat, what);
            Check.due("vatOf(" + vat + ", " + what + ")", due, vats.vatOf(vat, what));
        }
    }

    private static void dyeArguments() {
        answers("3 dye: vat 0 is the first", 9, of(vats -> vats.fill(0, 1)), vats -> vats.dye(0, 1, 9));
        answers("3 dye: vat 4 is the last", 9, of(vats -> vats.fill(4, 1)), vats -> vats.dye(4, 1, 9));
        throwing("3 dye: vat -1 is none", INDEX, vats -> vats.dye(-1, 0, 1));
        throwing("3 dye: vat 5 is none", INDEX, vats -> vats.dye(5, 0, 1));
        throwing("3 dye: the least integer is no vat", INDEX, vats -> vats.dye(MIN, 0, 1));
        throwing("3 dye: the greatest integer is no vat", INDEX, vats -> vats.dye(MAX, 0, 1));
        answers("3 dye: dye 0 is the first", 57, Boundary::undyed, vats -> vats.dye(0, 0, 57));
        answers("3 dye: dye 2 is the last", 57, Boundary::undyed, vats -> vats.dye(0, 2, 57));
        throwing("3 dye: dye -1 is none", INDEX, vats -> vats.dye(0, -1, 1));
        throwing("3 dye: dye 3 is none", INDEX, vats -> vats.dye(0, 3, 1));
        throwing("3 dye: dye 3 of the last vat is none", INDEX, vats -> vats.dye(4, 3, 1));
        throwing("3 dye: the least integer is no dye", INDEX, vats -> vats.dye(0, MIN, 1));
        throwing("3 dye: the greatest integer is no dye", INDEX, vats -> vats.dye(0, MAX, 1));
        answers("3 dye: 1 grain is the least", 1, Boundary::undyed, vats -> vats.dye(0, 1, 1));
        throwing("3 dye: 0 grains are too few", ARGUMENT, vats -> vats.dye(0, 0, 0));
        throwing("3 dye: -1 grains are too few", ARGUMENT, vats -> vats.dye(0, 0, -1));
        throwing("3 dye: the least integer is too few", ARGUMENT, vats -> vats.dye(0, 0, MIN));
        answers("3 dye: 999 grains are the most", 999, Boundary::undyed, vats -> vats.dye(0, 1, 999));
        throwing("3 dye: 1000 grains are too many", ARGUMENT, vats -> vats.dye(0, 0, 1000));
        throwing("3 dye: the greatest integer is too many", ARGUMENT, vats -> vats.dye(0, 0, MAX));
        throwing("3 dye: 1000 grains for a vat without water are too many, not refused", ARGUMENT,
            vats -> vats.dye(4, 0, 1000));
        throwing("3 dye: no such vat, ahead of too few grains", INDEX, vats -> vats.dye(5, 0, 0));
        throwing("3 dye: no such dye, ahead of too many grains", INDEX, vats -> vats.dye(0, 3, 1000));
        throwing("3 dye: no such dye, also for a vat without water", INDEX, vats -> vats.dye(4, -1, 1));
    }

    private static void dyeWater() {
        refused("3 dye: into a vat that never had water", of(vats -> vats.fill(0, 10)), vats -> vats.dye(1, 0, 5));
        refused("3 dye: into a vat whose water went out", of(vats -> {
            vats.fill(0, 10);
            vats.valve(0, 5, 10, 0, 0);
            vats.pass(1);
        }), vats -> vats.dye(0, 2, 1));
        refused("3 dye: refused with three saved states", Boundary::busy, vats -> vats.dye(4, 0, 1));
        refused("3 dye: refused with six saved states, of which the oldest is dropped", Boundary::full,
            vats -> vats.dye(4, 0, 1));
        holds("3 dye: refused, it is not in the grains that were put in", vats -> {
            vats.dye(1, 1, 5);
            Check.due(0, vats.dyeOf(1, 0));
            Check.due(0, vats.vatOf(1, 3));
        });
        holds("3 dye: 1 water is enough for any grains, dissolved for now", vats -> {
            vats.fill(0, 1);
            Check.due(999, vats.dye(0, 0, 999));
            Check.due(1998, vats.dye(0, 0, 999));
            Check.due(1998, vats.vatOf(0, 2));
            Check.due(0, vats.vatOf(0, 5));
        });
        holds("3 dye: what has settled is not in the answer", vats -> {
            vats.fill(0, 100);
            vats.dye(0, 0, 60);
            vats.pass(1);
            Check.due(21, vats.dye(0, 0, 1));
            Check.due(40, vats.vatOf(0, 5));
        });
        Check.test("3 dye: one dye of one vat alone", () -> {
            for (int vat = 0; vat < 5; vat++) {
                for (int dye = 0; dye < 3; dye++) {
                    DyeVats vats = crowded();
                    int want = 31 + 2 * vat + dye;
                    Check.due(want, vats.dye(vat, dye, 10));
                    dueOthers(vats, vat);
                    dueButOne(vats, vat, 2 + dye, want);
                    for (int other = 0; other < 3; other++) {
                        Check.due("put in of " + other, 160 + 10 * other + (other == dye ? 10 : 0), vats.dyeOf(other, 0));
                    }
                }
            }
        });
        undoable("3 dye", vats -> vats.dye(0, 1, 1));
    }

    /** 99900 grains of dye 1 were put in, into vat 0. */
    private static DyeVats dyed() {
        DyeVats vats = new DyeVats();
        vats.fill(0, 500);
        for (int i = 0; i < 100; i++) {
            vats.dye(0, 1, 999);
        }
        return vats;
    }

    private static DyeVats dyedToTheLimit() {
        DyeVats vats = dyed();
        vats.dye(0, 1, 99);
        return vats;
    }

    private static void dyeLimit() {
        answers("3 dye: 99999 grains of a dye are the most", 99999, VatBoundaries::dyed, vats -> vats.dye(0, 1, 99));
        throwing("3 dye: 100000 grains of a dye are too many", STATE, VatBoundaries::dyed, vats -> vats.dye(0, 1, 100));
        throwing("3 dye: 1 more than 99999 is too many", STATE, VatBoundaries::dyedToTheLimit, vats -> vats.dye(0, 1, 1));
        throwing("3 dye: too many grains, though it would be refused", STATE, VatBoundaries::dyed,
            vats -> vats.dye(3, 1, 100));
        refused("3 dye: 99999 grains would not be too many, so it is refused", VatBoundaries::dyed,
            vats -> vats.dye(3, 1, 99));
        answers("3 dye: the limit is for each dye by itself", 999, VatBoundaries::dyedToTheLimit,
            vats -> vats.dye(0, 2, 999));
        throwing("3 dye: the limit is for all vats together", STATE, () -> {
            DyeVats vats = dyed();
            vats.fill(1, 10);
            return vats;
        }, vats -> vats.dye(1, 1, 100));
        throwing("3 dye: grains that went out are put in, too", STATE, () -> {
            DyeVats vats = dyed();
            vats.set(200);
            vats.valve(0, 5, 500, 0, 0);
            vats.pass(1);
            vats.fill(0, 1);
            return vats;
        }, vats -> vats.dye(0, 1, 100));
        Check.test("3 dye: refused grains do not come nearer to the limit", () -> {
            DyeVats vats = dyed();
            vats.dye(3, 1, 99);
            Check.due(99999, vats.dye(0, 1, 99));
        });
        Check.test("3 dye: undone grains are not put in", () -> {
            DyeVats vats = dyedToTheLimit();
            vats.undo();
            Check.due(99999, vats.dye(0, 1, 99));
        });
        throwing("3 dye: no such vat, ahead of the limit", INDEX, VatBoundaries::dyedToTheLimit, vats -> vats.dye(5, 1, 1));
        throwing("3 dye: too few grains, ahead of the limit", ARGUMENT, VatBoundaries::dyedToTheLimit,
            vats -> vats.dye(0, 1, 0));
        throwing("3 dye: too many grains at once, ahead of the limit", ARGUMENT, VatBoundaries::dyedToTheLimit,
            vats -> vats.dye(0, 1, 1000));
        throwing("3 dye: no such vat, ahead of all else", INDEX, VatBoundaries::dyedToTheLimit,
            vats -> vats.dye(-1, 1, 1000));
    }

    /** 20 grains of each dye are dissolved, all that can be held; 30 of dye 0 and 5 of dye 1 have settled. */
    private static DyeVats settled() {
        DyeVats vats = new DyeVats();
        vats.fill(0, 100);
        vats.dye(0, 0, 50);
        vats.dye(0, 1, 25);
        vats.dye(0, 2, 20);
        vats.pass(1);
        return vats;
    }

    private static DyeVats settledAndSet(int setting) {
        DyeVats vats = settled();
        vats.set(setting);
        return vats;
    }

    private static void stirArguments() {
        holds("4 stir: vat 0 is the first", vats -> dueStirred(vats, 0));
        holds("4 stir: vat 4 is the last", vats -> dueStirred(vats, 4));
        throwing("4 stir: vat -1 is none", INDEX, vats -> vats.stir(-1));
        throwing("4 stir: vat 5 is none", INDEX, vats -> vats.stir(5));
        throwing("4 stir: the least integer is no vat", INDEX, vats -> vats.stir(MIN));
        throwing("4 stir: the greatest integer is no vat", INDEX, vats -> vats.stir(MAX));
        undoable("4 stir: nothing to stir in an empty vat", vats -> vats.stir(4));
        undoable("4 stir: some to stir,", VatBoundaries::stirrable, vats -> vats.stir(0));
        undoable("4 stir: nothing can be held beside,", VatBoundaries::settled, vats -> vats.stir(0));
    }

    private static DyeVats stirrable() {
        return settledAndSet(40);
    }

    private static void dueStirred(DyeVats vats, int vat) {
        vats.fill(vat, 100);
        vats.dye(vat, 1, 25);
        vats.pass(1);
        vats.set(23);
        Check.due(3, vats.stir(vat));
        Check.due(23, vats.vatOf(vat, 3));
        Check.due(2, vats.vatOf(vat, 6));
    }

    private static void stirLimit() {
        answers("4 stir: nothing, as nothing can be held beside", 0, VatBoundaries::settled, vats -> vats.stir(0));
        answers("4 stir: 1 of each settled dye, as 1 can be held beside", 2, () -> settledAndSet(21), vats -> vats.stir(0));
        answers("4 stir: 1 less than has settled", 8, () -> settledAndSet(24), vats -> vats.stir(0));
        answers("4 stir: just as many as have settled", 10, () -> settledAndSet(25), vats -> vats.stir(0));
        answers("4 stir: no more than have settled", 11, () -> settledAndSet(26), vats -> vats.stir(0));
        answers("4 stir: all but 1 of all dyes", 34, () -> settledAndSet(49), vats -> vats.stir(0));
        answers("4 stir: all of all dyes", 35, () -> settledAndSet(50), vats -> vats.stir(0));
        answers("4 stir: all of all dyes, though more could be held", 35, () -> settledAndSet(200), vats -> vats.stir(0));
        answers("4 stir: nothing, though more is dissolved than can be held", 0, () -> settledAndSet(19),
            vats -> vats.stir(0));
        Check.test("4 stir: what is dissolved beyond the limit stays so", () -> {
            DyeVats vats = settledAndSet(0);
            Check.due(0, vats.stir(0));
            Check.due(20, vats.vatOf(0, 2));
            Check.due(30, vats.vatOf(0, 5));
        });
        Check.test("4 stir: the grains go from settled to dissolved", () -> {
            DyeVats vats = settledAndSet(26);
            vats.stir(0);
            int[] due = {26, 25, 20, 24, 0, 0};
            for (int what = 2; what <= 7; what++) {
                Check.due("vatOf(0, " + what + ")", due[what - 2], vats.vatOf(0, what));
            }
        });
        answers("4 stir: nothing the second time", 0, () -> {
            DyeVats vats = settledAndSet(26);
            vats.stir(0);
            return vats;
        }, vats -> vats.stir(0));
        Check.test("4 stir: nothing in a vat without water", () -> {
            DyeVats vats = settled();
            vats.valve(0, 5, 100, 1, 1);
            vats.pass(1);
            vats.set(200);
            Check.due(0, vats.stir(0));
            Check.due(30, vats.vatOf(0, 5));
        });
        Check.test("4 stir: one vat alone", () -> {
            for (int vat = 0; vat < 5; vat++) {
                DyeVats vats = crowded();
                vats.set(200);
                Check.due(3 * (1 + 3 * vat) + 3, vats.stir(vat));
                dueOthers(vats, vat);
                for (int dye = 0; dye < 3; dye++) {
                    Check.due("dissolved", 22 + 5 * vat + 2 * dye, vats.vatOf(vat, 2 + dye));
                    Check.due("settled", 0, vats.vatOf(vat, 5 + dye));
                }
            }
        });
        Check.test("4 stir: each dye to the same limit", () -> {
            DyeVats vats = crowded();
            vats.set(23);
            Check.due("27 less 25, 26 and 27", 3, vats.stir(2));
            int[] due = {27, 27, 27, 5, 7, 9};
            for (int what = 2; what <= 7; what++) {
                Check.due("vatOf(2, " + what + ")", due[what - 2], vats.vatOf(2, what));
            }
        });
        holds("4 stir: what can be held is rounded down", vats -> {
            vats.fill(0, 104);
            vats.dye(0, 0, 30);
            vats.pass(1);
            Check.due(0, vats.stir(0));
            vats.fill(0, 1);
            Check.due(1, vats.stir(0));
        });
    }

    private static void capacityArguments() {
        answers("5 capacity: vat 0 is the first", 1000, DyeVats::new, vats -> vats.capacity(0, 7));
        answers("5 capacity: vat 4 is the last", 1000, DyeVats::new, vats -> vats.capacity(4, 7));
        throwing("5 capacity: vat -1 is none", INDEX, vats -> vats.capacity(-1, 7));
        throwing("5 capacity: vat 5 is none, for out is no vat", INDEX, vats -> vats.capacity(5, 7));
        throwing("5 capacity: the least integer is no vat", INDEX, vats -> vats.capacity(MIN, 7));
        throwing("5 capacity: the greatest integer is no vat", INDEX, vats -> vats.capacity(MAX, 7));
        holds("5 capacity: 1 is the least", vats -> {
            Check.due(1000, vats.capacity(2, 1));
            Check.due(1, vats.vatOf(2, 0));
        });
        throwing("5 capacity: 0 is too little", ARGUMENT, vats -> vats.capacity(2, 0));
        throwing("5 capacity: 0 is too little for a vat with water, not refused", ARGUMENT, vats -> vats.capacity(0, 0));
        throwing("5 capacity: -1 is too little", ARGUMENT, vats -> vats.capacity(2, -1));
        throwing("5 capacity: the least integer is too little", ARGUMENT, vats -> vats.capacity(2, MIN));
        holds("5 capacity: 2000 is the most", vats -> {
            Check.due(1000, vats.capacity(2, 2000));
            Check.due(2000, vats.vatOf(2, 0));
        });
        throwing("5 capacity: 2001 is too much", ARGUMENT, vats -> vats.capacity(2, 2001));
        throwing("5 capacity: the greatest integer is too much", ARGUMENT, vats -> vats.capacity(2, MAX));
        throwing("5 capacity: no such vat, ahead of too little", INDEX, vats -> vats.capacity(5, 0));
        throwing("5 capacity: no such vat, ahead of too much", INDEX, vats -> vats.capacity(-1, 2001));
    }

    private static void capacityWater() {
        Check.test("5 capacity: as much as the water", () -> {
            DyeVats vats = of(x -> x.fill(1, 300)).get();
            Check.due(1000, vats.capacity(1, 300));
            Check.due(300, vats.vatOf(1, 0));
            Check.due(300, vats.vatOf(1, 1));
        });
        refused("5 capacity: 1 less than the water", of(vats -> vats.fill(1, 300)), vats -> vats.capacity(1, 299));
        refused("5 capacity: 1 with 2 water", of(vats -> vats.fill(4, 2)), vats -> vats.capacity(4, 1));
        refused("5 capacity: refused with three saved states", Boundary::busy, vats -> vats.capacity(3, 5));
        refused("5 capacity: refused with six saved states, of which the oldest is dropped", Boundary::full,
            vats -> vats.capacity(0, 5));
        holds("5 capacity: refused, the capacity stays", vats -> {
            vats.fill(0, 2);
            vats.capacity(0, 1);
            Check.due(1000, vats.vatOf(0, 0));
            Check.due(998 + 2, vats.fill(0, 998));
        });
        holds("5 capacity: the answer is the one before, not the first one", vats -> {
            vats.capacity(3, 1200);
            Check.due(1200, vats.capacity(3, 5));
        });
        answers("5 capacity: the same one again", 1000, DyeVats::new, vats -> vats.capacity(3, 1000));
        undoable("5 capacity: the same one again", vats -> vats.capacity(4, 70));
        undoable("5 capacity", vats -> vats.capacity(4, 69));
        Check.test("5 capacity: of one vat alone", () -> {
            for (int vat = 0; vat < 5; vat++) {
                DyeVats vats = crowded();
                Check.due(300 + vat, vats.capacity(vat, 200));
                dueOthers(vats, vat);
                dueButOne(vats, vat, 0, 200);
            }
        });
    }
}
