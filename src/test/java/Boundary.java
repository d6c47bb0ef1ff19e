import java.util.function.Consumer;
import java.util.function.Supplier;
import java.util.function.ToLongFunction;

/**
 * What a test of one boundary case can ask. A recipe makes the same object each time, so that an object with the call
 * can be compared with its twin without it.
 */
abstract class Boundary {
    static final Class<IndexOutOfBoundsException> INDEX = IndexOutOfBoundsException.class;
    static final Class<IllegalArgumentException> ARGUMENT = IllegalArgumentException.class;
    static final Class<IllegalStateException> STATE = IllegalStateException.class;
    static final int MIN = Integer.MIN_VALUE;
    static final int MAX = Integer.MAX_VALUE;
    static final int MOST_SAVED = 6;

    /** A case of some calls on a new object. */
    static void holds(String name, Consumer<DyeVats> calls) {
        Check.test(name, () -> calls.accept(new DyeVats()));
    }

    static void answers(String name, long want, Supplier<DyeVats> recipe, ToLongFunction<DyeVats> call) {
        Check.test(name, () -> Check.due(want, call.applyAsLong(recipe.get())));
    }

    /** The call throws this very exception, and changes nothing. */
    static void throwing(String name, Class<? extends RuntimeException> want, Supplier<DyeVats> recipe,
            ToLongFunction<DyeVats> call) {
        Check.test(name, () -> {
            DyeVats vats = recipe.get();
            Check.dueThrow(want, () -> call.applyAsLong(vats));
            sameWhole(recipe.get(), vats);
        });
    }

    static void throwing(String name, Class<? extends RuntimeException> want, ToLongFunction<DyeVats> call) {
        throwing(name, want, Boundary::busy, call);
    }

    /** The call answers NONE, is counted and saved, and changes nothing else; undo takes the count back, too. */
    static void refused(String name, Supplier<DyeVats> recipe, ToLongFunction<DyeVats> call) {
        Check.test(name, () -> {
            DyeVats vats = recipe.get();
            DyeVats twin = recipe.get();
            Check.due("the call", DyeVats.NONE, call.applyAsLong(vats));
            Check.due("what was refused", twin.count(7) + 1, vats.count(7));
            Check.dueText("looks", looks(twin), looks(vats));
            dueUndo(twin, vats);
        });
    }

    /** The call saves the state from before it, which undo brings back. */
    static void undoable(String name, Supplier<DyeVats> recipe, ToLongFunction<DyeVats> call) {
        Check.test(name, () -> {
            DyeVats vats = recipe.get();
            call.applyAsLong(vats);
            dueUndo(recipe.get(), vats);
        });
    }

    /** With none, with some and with all six states saved. */
    static void undoable(String name, ToLongFunction<DyeVats> call) {
        undoable(name + " is undoable", Boundary::busy, call);
        undoable(name + " is undoable with none saved ahead of it", Boundary::unsaved, call);
        undoable(name + " is undoable with six saved ahead of it", Boundary::full, call);
    }

    /** The call saves no state; what it does to buffer and slots is not looked at. */
    static void notUndoable(String name, ToLongFunction<DyeVats> call) {
        Check.test(name + " is not undoable", () -> {
            DyeVats vats = full();
            DyeVats twin = full();
            call.applyAsLong(vats);
            Check.dueText("looks", looks(twin), looks(vats));
            for (int left = MOST_SAVED; left > 0; left--) {
                Check.due("saved states", left, vats.count(9));
                Check.due("undo", twin.undo(), vats.undo());
                Check.dueText("counts behind undo", counts(twin), counts(vats));
            }
            Check.dueThrow(STATE, () -> vats.undo());
        });
    }

    static void changesNothing(String name, Supplier<DyeVats> recipe, ToLongFunction<DyeVats> call) {
        Check.test(name, () -> {
            DyeVats vats = recipe.get();
            call.applyAsLong(vats);
            sameWhole(recipe.get(), vats);
        });
    }

    private static void dueUndo(DyeVats twin, DyeVats vats) {
        int saved = twin.count(9);
        Check.due("saved states", Math.min(MOST_SAVED, saved + 1), vats.count(9));
        Check.due("undo", Math.min(MOST_SAVED - 1, saved), vats.undo());
        Check.dueText("looks behind undo", looks(twin), looks(vats));
        Check.dueText("counts behind undo", counts(twin), counts(vats));
        for (int left = Math.min(MOST_SAVED - 1, saved); left > 0; left--) {
            twin.undo();
            Check.due("undo", left - 1, vats.undo());
            Check.dueText("counts behind one undo more", counts(twin), counts(vats));
        }
        Check.dueThrow(STATE, () -> vats.undo());
    }

    static void sameWhole(DyeVats want, DyeVats got) {
        Check.dueText("all that can be told", whole(want), whole(got));
    }

    /** What an object answers now, behind each undo, and behind going back; some twenty calls, which use it up. */
    private static String whole(DyeVats vats) {
        StringBuilder whole = new StringBuilder("now ").append(vats.digest()).append(' ').append(vats.count(7));
        int saved = vats.count(9);
        for (int left = saved; left > 0; left--) {
            whole.append(", undo ").append(vats.undo()).append(' ').append(vats.digest());
        }
        for (int slot = 0; slot < 2; slot++) {
            whole.append(", slot ").append(slot).append(' ').append(goneBack(vats, slot));
        }
        return whole.append(", buffer ").append(vats.clearBuffer()).toString();
    }

    private static String goneBack(DyeVats vats, int slot) {
        try {
            return vats.goBack(slot) + " " + vats.digest();
        } catch (IllegalStateException e) {
            return "is empty";
        }
    }

    /** The properties of all vats, valves and dyes, and the setting: some 80 calls, and 7 more for each valve. */
    private static String looks(DyeVats vats) {
        StringBuilder looks = new StringBuilder("setting ").append(vats.count(8));
        for (int vat = 0; vat < 5; vat++) {
            for (int what = 0; what <= 9; what++) {
                looks.append(what == 0 ? ", vat " + vat + ": " : " ").append(vats.vatOf(vat, what));
            }
        }
        int valves = vats.count(2);
        for (int valve = 0; valve < valves; valve++) {
            for (int what = 0; what <= 6; what++) {
                looks.append(what == 0 ? ", valve " + valve + ": " : " ").append(vats.valveOf(valve, what));
            }
        }
        for (int dye = 0; dye < 3; dye++) {
            for (int what = 0; what <= 4; what++) {
                looks.append(what == 0 ? ", dye " + dye + ": " : " ").append(vats.dyeOf(dye, what));
            }
        }
        return looks.toString();
    }

    /** All counts but the saved states; they are enough to tell the saved states of a recipe from one another. */
    private static String counts(DyeVats vats) {
        StringBuilder counts = new StringBuilder();
        for (int what = 0; what <= 8; what++) {
            counts.append(vats.count(what)).append(' ');
        }
        return counts.toString();
    }

    static void type(DyeVats vats, String text) {
        for (int i = 0; i < text.length(); i++) {
            vats.append(text.charAt(i));
        }
    }

    static Supplier<DyeVats> of(Consumer<DyeVats> calls) {
        return () -> {
            DyeVats vats = new DyeVats();
            calls.accept(vats);
            return vats;
        };
    }

    /** Something of everything: dissolved and settled dye, valves, a pipe, snapshots, a plan in the buffer; 3 saved. */
    static DyeVats busy() {
        DyeVats vats = unsaved();
        vats.fill(3, 6);
        vats.fill(3, 2000);
        vats.dye(3, 1, 40);
        return vats;
    }

    /** Vat 0 has water, and no vat has dye. */
    static DyeVats undyed() {
        DyeVats vats = new DyeVats();
        vats.fill(0, 100);
        return vats;
    }

    /** As busy, but with six saved states. */
    static DyeVats full() {
        DyeVats vats = busy();
        vats.set(33);
        vats.pass(25);
        vats.pipe(3, 1);
        return vats;
    }

    /** As busy, but without a saved state: six calls that change nothing push the others out, and are undone. */
    static DyeVats unsaved() {
        DyeVats vats = new DyeVats();
        vats.fill(0, 100);
        vats.fill(1, 60);
        vats.dye(0, 0, 50);
        vats.dye(0, 2, 7);
        vats.dye(1, 1, 30);
        vats.capacity(4, 70);
        vats.fill(4, 71);
        vats.valve(0, 5, 3, 0, 23);
        vats.valve(1, 2, 4, 3, 4);
        vats.pipe(0, 1);
        vats.keep(0);
        vats.pass(5);
        vats.keep(1);
        type(vats, "0>1*1@0-0");
        for (int i = 0; i < MOST_SAVED; i++) {
            vats.stir(2);
        }
        for (int i = 0; i < MOST_SAVED; i++) {
            vats.undo();
        }
        return vats;
    }

    /**
     * All vats have water, and dissolved and settled grains of all dyes, each another number: vat v has the capacity
     * 300 + v, 100 + 10 * v water, of dye d 21 + 2 * v + d dissolved and 1 + 3 * v + d settled grains.
     */
    static DyeVats crowded() {
        DyeVats vats = new DyeVats();
        for (int vat = 0; vat < 5; vat++) {
            vats.capacity(vat, 300 + vat);
            vats.fill(vat, 100 + 10 * vat);
            for (int dye = 0; dye < 3; dye++) {
                vats.dye(vat, dye, 21 + 5 * vat + dye);
            }
        }
        vats.pass(1);
        for (int vat = 0; vat < 5; vat++) {
            for (int dye = 0; dye < 3; dye++) {
                vats.dye(vat, dye, 1 + dye);
            }
        }
        vats.pipe(0, 4);
        vats.pipe(1, 4);
        vats.pipe(2, 3);
        vats.valve(0, 5, 7, 1, 1);
        vats.valve(4, 2, 8, 0, 0);
        return vats;
    }

    static int crowdedVat(int vat, int what) {
        int[] masks = {16, 16, 8, 4, 3};
        switch (what) {
            case 0: return 300 + vat;
            case 1: return 100 + 10 * vat;
            case 8: return masks[vat];
            case 9: return 20 + 2 * vat;
            default: return what < 5 ? 21 + 2 * vat + what - 2 : 1 + 3 * vat + what - 5;
        }
    }

    /** All vats but this one are as a crowded object has them. */
    static void dueOthers(DyeVats vats, int but) {
        for (int vat = 0; vat < 5; vat++) {
            for (int what = 0; what <= 8 && vat != but; what++) {
                Check.due("vatOf(" + vat + ", " + what + ")", crowdedVat(vat, what), vats.vatOf(vat, what));
            }
        }
    }
}
