import java.util.function.LongSupplier;

/** Runs of calls by dice, each answer compared with the model's; then accounts that must come out even. */
final class ModelTest {
    private static final int RUNS = 300;
    // What an object answers after its 512th call is free; a text and the looks of one step are below 50 calls.
    private static final int PROMISED_CALLS = 512;
    private static final int MOST_CALLS = PROMISED_CALLS - 50;

    private final DyeVats vats = new DyeVats();
    private final Model model = new Model();
    private final Dice dice;
    private final int kind;
    private int made = 0;

    private ModelTest(int seed) {
        dice = new Dice(seed);
        kind = seed % 6;
    }

    static void run() {
        for (int seed = 0; seed < RUNS; seed++) {
            int of = seed;
            Check.test("1 to 27: run " + seed + " as the model", () -> new ModelTest(of).calls());
        }
    }

    private void calls() {
        for (int i = 1; made < MOST_CALLS; i++) {
            call(dice.below(100));
            if (i % 60 == 0) {
                same("digest", vats::digest, model::digest);
                accounts();
            }
        }
        lastCalls();
    }

    /** The last call that is promised is answered as well as the first one. */
    private void lastCalls() {
        while (made < PROMISED_CALLS - 1) {
            same("vatOf", () -> vats.vatOf(made % 5, made % 10), () -> model.vatOf(made % 5, made % 10));
        }
        Check.due("calls", PROMISED_CALLS - 1, made);
        same("digest", vats::digest, model::digest);
    }

    /** Dye in is dye in vats or out, and water likewise. */
    private void accounts() {
        for (int dye = 0; dye < 3; dye++) {
            Check.due("dye", vats.dyeOf(dye, 0), vats.dyeOf(dye, 1) + vats.dyeOf(dye, 2) + vats.dyeOf(dye, 3));
        }
        Check.due("water", vats.count(6), vats.count(4) + vats.count(5));
        made += 15;
    }

    private void call(int choice) {
        if (choice < 12) {
            int vat = vat();
            int water = number(1, kind < 3 ? 60 : 2000);
            same("fill", () -> vats.fill(vat, water), () -> model.fill(vat, water));
        } else if (choice < 26) {
            int vat = vat();
            int dye = dice.below(20) == 0 ? 3 : dice.below(3);
            int grains = number(kind == 5 ? 990 : 1, kind < 3 ? 40 : 999);
            same("dye", () -> vats.dye(vat, dye, grains), () -> model.dye(vat, dye, grains));
        } else if (choice < 30) {
            int vat = vat();
            same("stir", () -> vats.stir(vat), () -> model.stir(vat));
        } else if (choice < 34) {
            int vat = vat();
            int capacity = number(1, kind < 2 ? 100 : 2000);
            same("capacity", () -> vats.capacity(vat, capacity), () -> model.capacity(vat, capacity));
        } else if (choice < 52) {
            valveCall(choice);
        } else if (choice < 60) {
            int hours = kind == 4 && dice.below(2) == 0 ? 240 : number(1, dice.below(4) == 0 ? 240 : 9);
            same("pass", () -> vats.pass(hours), () -> model.pass(hours));
        } else if (choice < 76) {
            textCall(choice);
        } else {
            look(choice);
        }
    }

    private void valveCall(int choice) {
        int from = vat();
        int to = dice.below(25) == 0 ? from : dice.from(0, 5);
        if (choice < 41) {
            int rate = number(1, kind < 3 ? 20 : 500);
            int first = number(0, 23);
            int last = dice.below(3) == 0 ? number(0, 23) : dice.from(Math.min(Math.max(first, 0), 23), 23);
            same("valve", () -> vats.valve(from, to, rate, first, last), () -> model.valve(from, to, rate, first, last));
        } else if (choice < 44) {
            int valve = dice.from(-1, 8);
            same("close", () -> vats.close(valve), () -> model.close(valve));
        } else if (choice < 48) {
            same("pipe", () -> vats.pipe(from, to), () -> model.pipe(from, to));
        } else {
            int value = number(0, kind % 2 == 0 ? 200 : 40);
            same("set", () -> vats.set(value), () -> model.set(value));
        }
    }

    private void textCall(int choice) {
        int slot = dice.below(12) == 0 ? 2 : dice.below(2);
        if (choice < 64) {
            String text = dice.valveText() + (dice.below(2) == 0 ? ";" + dice.valveText() : "") + (dice.below(9) == 0 ? "!" : "");
            same("clearBuffer", vats::clearBuffer, model::clearBuffer);
            for (int i = 0; i < text.length(); i++) {
                int code = text.charAt(i);
                same("append", () -> vats.append(code), () -> model.append(code));
            }
        } else if (choice < 66) {
            int code = number(33, 126);
            same("append", () -> vats.append(code), () -> model.append(code));
        } else if (choice < 68) {
            same("load", vats::load, model::load);
        } else if (choice < 70) {
            same("keep", () -> vats.keep(slot), () -> model.keep(slot));
        } else if (choice < 72) {
            same("goBack", () -> vats.goBack(slot), () -> model.goBack(slot));
        } else {
            same("undo", vats::undo, model::undo);
        }
    }

    private void look(int choice) {
        int vat = vat();
        int valve = dice.from(-1, 8);
        int dye = dice.from(0, dice.below(20) == 0 ? 3 : 2);
        int what = number(0, 9);
        int hours = number(1, 240);
        if (choice < 80) {
            same("vatOf", () -> vats.vatOf(vat, what), () -> model.vatOf(vat, what));
        } else if (choice < 83) {
            same("valveOf", () -> vats.valveOf(valve, what), () -> model.valveOf(valve, what));
        } else if (choice < 86) {
            same("dyeOf", () -> vats.dyeOf(dye, what), () -> model.dyeOf(dye, what));
        } else if (choice < 89) {
            same("count", () -> vats.count(what), () -> model.count(what));
        } else if (choice < 92) {
            same("ifPassed", () -> vats.ifPassed(hours, vat, what), () -> model.ifPassed(hours, vat, what));
        } else if (choice < 94) {
            same("emptyIn", () -> vats.emptyIn(vat), () -> model.emptyIn(vat));
        } else if (choice < 96) {
            for (int of = 0; of <= 4; of++) {
                int way = of;
                same("round " + way, () -> vats.round(way), () -> model.round(way));
            }
        } else if (choice < 98) {
            same("mainValve", vats::mainValve, model::mainValve);
        } else {
            made++;
            Check.dueDouble(model.goneShare(), vats.goneShare());
        }
    }

    private int vat() {
        return dice.below(30) == 0 ? dice.from(-1, 5) : dice.below(kind == 2 ? 3 : 5);
    }

    /** Mostly within the range, now and then its ends or just beyond them. */
    private int number(int least, int most) {
        switch (dice.below(20)) {
            case 0: return least - 1;
            case 1: return most + 1;
            case 2: return least;
            case 3: return most;
            default: return least > most ? least : dice.from(least, most);
        }
    }

    private void same(String call, LongSupplier one, LongSupplier other) {
        made++;
        Check.dueText(call, answer(other), answer(one));
    }

    private static String answer(LongSupplier call) {
        try {
            return Long.toString(call.getAsLong());
        } catch (RuntimeException e) {
            return e.getClass().getName();
        }
    }
}
