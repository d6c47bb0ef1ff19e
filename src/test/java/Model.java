import java.math.BigInteger;
import java.util.ArrayDeque;
import java.util.ArrayList;
import java.util.Deque;
import java.util.HashMap;
import java.util.List;
import java.util.Map;
import java.util.regex.Pattern;

/** The document once more, held in objects and lists and slow on purpose, to compare answers with. */
final class Model {
    static final int NONE = -1;
    private static final Pattern PLAN = Pattern.compile("[0-4]>[0-5]\\*[1-9]\\d{0,2}@\\d{1,2}-\\d{1,2}"
        + "(;[0-4]>[0-5]\\*[1-9]\\d{0,2}@\\d{1,2}-\\d{1,2})*");

    /** A vat, or what is out, which holds water and dye without a limit. */
    private static final class Vat {
        int capacity = 1000;
        int water = 0;
        int[] dissolved = new int[3];
        int[] settled = new int[3];

        Vat copy() {
            Vat copy = new Vat();
            copy.capacity = capacity;
            copy.water = water;
            copy.dissolved = dissolved.clone();
            copy.settled = settled.clone();
            return copy;
        }

        String look() {
            return water + List.of(dissolved[0], dissolved[1], dissolved[2], settled[0], settled[1], settled[2]).toString();
        }
    }

    private static final class World {
        List<Vat> vats = new ArrayList<>();
        List<int[]> valves = new ArrayList<>();
        boolean[][] pipes = new boolean[5][5];
        int[] dyeIn = new int[3];
        int setting = 20;
        int hours = 0;
        int waterIn = 0;
        int refused = 0;

        World copy() {
            World copy = new World();
            for (Vat vat : vats) {
                copy.vats.add(vat.copy());
            }
            for (int[] valve : valves) {
                copy.valves.add(valve.clone());
            }
            for (int i = 0; i < 5; i++) {
                copy.pipes[i] = pipes[i].clone();
            }
            copy.dyeIn = dyeIn.clone();
            copy.setting = setting;
            copy.hours = hours;
            copy.waterIn = waterIn;
            copy.refused = refused;
            return copy;
        }

        int limit(int vat) {
            return vats.get(vat).water * setting / 100;
        }

        int move(int from, int to, int wanted) {
            Vat one = vats.get(from);
            Vat other = vats.get(to);
            int moved = Math.min(wanted, one.water);
            if (to < 5) {
                moved = Math.min(moved, other.capacity - other.water);
            }
            int[] grains = new int[3];
            for (int dye = 0; dye < 3 && moved > 0; dye++) {
                grains[dye] = BigInteger.valueOf(one.dissolved[dye]).multiply(BigInteger.valueOf(moved))
                    .divide(BigInteger.valueOf(one.water)).intValueExact();
            }
            for (int dye = 0; dye < 3; dye++) {
                one.dissolved[dye] -= grains[dye];
                other.dissolved[dye] += grains[dye];
            }
            one.water -= moved;
            other.water += moved;
            return moved;
        }

        World after(int count) {
            World then = copy();
            for (int i = 0; i < count; i++) {
                then.hour();
            }
            return then;
        }

        void hour() {
            for (int[] valve : valves) {
                if (valve[3] <= hours % 24 && hours % 24 <= valve[4]) {
                    valve[5] += move(valve[0], valve[1], valve[2]);
                }
            }
            for (int one = 0; one < 5; one++) {
                for (int other = one + 1; other < 5; other++) {
                    if (pipes[one][other]) {
                        int high = vats.get(one).water > vats.get(other).water ? one : other;
                        int low = one + other - high;
                        move(high, low, (vats.get(high).water - vats.get(low).water) / 2);
                    }
                }
            }
            for (int i = 0; i < 5; i++) {
                Vat vat = vats.get(i);
                for (int dye = 0; dye < 3; dye++) {
                    int stays = Math.min(vat.dissolved[dye], limit(i));
                    vat.settled[dye] += vat.dissolved[dye] - stays;
                    vat.dissolved[dye] = stays;
                }
            }
            hours++;
        }

        String look() {
            StringBuilder look = new StringBuilder();
            for (int vat = 0; vat < 5; vat++) {
                look.append(vats.get(vat).look());
            }
            return look.append(hours % 24).toString();
        }

        /** The round and its lead. */
        int[] round() {
            Map<String, Integer> first = new HashMap<>();
            World day = this;
            for (int days = 0; days <= 60; days++) {
                Integer before = first.putIfAbsent(day.look(), days);
                if (before != null) {
                    return new int[] {days - before, before};
                }
                day = day.after(24);
            }
            return new int[] {NONE, NONE};
        }
    }

    private World world = new World();
    private final Deque<World> saved = new ArrayDeque<>();
    private final World[] slots = new World[2];
    private String buffer = "";

    Model() {
        for (int vat = 0; vat <= 5; vat++) {
            world.vats.add(new Vat());
        }
    }

    private void save() {
        saved.addLast(world.copy());
        if (saved.size() > 6) {
            saved.removeFirst();
        }
    }

    private static void index(boolean good) {
        if (!good) {
            throw new IndexOutOfBoundsException();
        }
    }

    private static void argument(boolean good) {
        if (!good) {
            throw new IllegalArgumentException();
        }
    }

    private static void state(boolean good) {
        if (!good) {
            throw new IllegalStateException();
        }
    }

    private static boolean in(int value, int least, int most) {
        return least <= value && value <= most;
    }

    private int refuse() {
        world.refused++;
        return NONE;
    }

    int fill(int vat, int water) {
        index(in(vat, 0, 4));
        argument(in(water, 1, 2000));
        save();
        Vat one = world.vats.get(vat);
        if (one.water + water > one.capacity) {
            return refuse();
        }
        one.water += water;
        world.waterIn += water;
        return one.water;
    }

    int dye(int vat, int dye, int grains) {
        index(in(vat, 0, 4) && in(dye, 0, 2));
        argument(in(grains, 1, 999));
        state(world.dyeIn[dye] + grains <= 99999);
        save();
        Vat one = world.vats.get(vat);
        if (one.water == 0) {
            return refuse();
        }
        world.dyeIn[dye] += grains;
        return one.dissolved[dye] += grains;
    }

    int stir(int vat) {
        index(in(vat, 0, 4));
        save();
        Vat one = world.vats.get(vat);
        int stirred = 0;
        for (int dye = 0; dye < 3; dye++) {
            while (one.settled[dye] > 0 && one.dissolved[dye] < world.limit(vat)) {
                one.settled[dye]--;
                one.dissolved[dye]++;
                stirred++;
            }
        }
        return stirred;
    }

    int capacity(int vat, int capacity) {
        index(in(vat, 0, 4));
        argument(in(capacity, 1, 2000));
        save();
        Vat one = world.vats.get(vat);
        if (one.water > capacity) {
            return refuse();
        }
        int before = one.capacity;
        one.capacity = capacity;
        return before;
    }

    int valve(int from, int to, int rate, int first, int last) {
        index(in(from, 0, 4) && in(to, 0, 5));
        argument(from != to && in(rate, 1, 500) && in(first, 0, 23) && in(last, first, 23));
        state(world.valves.size() < 8);
        save();
        world.valves.add(new int[] {from, to, rate, first, last, 0});
        return world.valves.size() - 1;
    }

    int close(int valve) {
        index(in(valve, 0, world.valves.size() - 1));
        save();
        world.valves.remove(valve);
        return world.valves.size();
    }

    int pipe(int one, int other) {
        index(in(one, 0, 4) && in(other, 0, 4));
        argument(one != other);
        save();
        boolean there = !world.pipes[one][other];
        world.pipes[one][other] = there;
        world.pipes[other][one] = there;
        return there ? 1 : 0;
    }

    int set(int value) {
        argument(in(value, 0, 200));
        save();
        int before = world.setting;
        world.setting = value;
        return before;
    }

    int pass(int hours) {
        argument(in(hours, 1, 240));
        state(world.hours + hours <= 99999);
        save();
        int before = world.vats.get(5).water;
        world = world.after(hours);
        return world.vats.get(5).water - before;
    }

    int append(int code) {
        argument(in(code, 33, 126));
        state(buffer.length() < 60);
        buffer += (char) code;
        return buffer.length();
    }

    int clearBuffer() {
        int before = buffer.length();
        buffer = "";
        return before;
    }

    int load() {
        List<int[]> told = plan();
        argument(told != null);
        state(told.size() <= 8);
        save();
        world.valves = told;
        buffer = "";
        return told.size();
    }

    private List<int[]> plan() {
        if (!PLAN.matcher(buffer).matches()) {
            return null;
        }
        List<int[]> told = new ArrayList<>();
        for (String text : buffer.split(";")) {
            String[] parts = text.split("[>*@-]");
            int[] valve = new int[6];
            for (int i = 0; i < 5; i++) {
                if (parts[i].length() > 1 && parts[i].startsWith("0")) {
                    return null;
                }
                valve[i] = Integer.parseInt(parts[i]);
            }
            if (valve[0] == valve[1] || valve[2] > 500 || valve[4] > 23 || valve[3] > valve[4]) {
                return null;
            }
            told.add(valve);
        }
        return told;
    }

    int keep(int slot) {
        argument(in(slot, 0, 1));
        slots[slot] = world.copy();
        return world.hours % 24;
    }

    int goBack(int slot) {
        argument(in(slot, 0, 1));
        state(slots[slot] != null);
        save();
        world = slots[slot].copy();
        return world.hours % 24;
    }

    int undo() {
        state(!saved.isEmpty());
        world = saved.removeLast();
        return saved.size();
    }

    private static int vatProperty(World world, int vat, int what) {
        Vat one = world.vats.get(vat);
        if (what >= 2 && what <= 7) {
            return what < 5 ? one.dissolved[what - 2] : one.settled[what - 5];
        }
        int mask = 0;
        for (int other = 0; other < 5; other++) {
            mask += world.pipes[vat][other] ? 1 << other : 0;
        }
        return what == 0 ? one.capacity : what == 1 ? one.water : what == 8 ? mask : world.limit(vat);
    }

    int vatOf(int vat, int what) {
        index(in(vat, 0, 4));
        argument(in(what, 0, 9));
        return vatProperty(world, vat, what);
    }

    int valveOf(int valve, int what) {
        index(in(valve, 0, world.valves.size() - 1));
        argument(in(what, 0, 6));
        int[] one = world.valves.get(valve);
        return what < 5 ? one[what] : what == 6 ? one[5] : in(world.hours % 24, one[3], one[4]) ? 1 : 0;
    }

    int dyeOf(int dye, int what) {
        index(in(dye, 0, 2));
        argument(in(what, 0, 4));
        int dissolved = 0;
        int settled = 0;
        int best = NONE;
        for (int vat = 0; vat < 5; vat++) {
            Vat one = world.vats.get(vat);
            dissolved += one.dissolved[dye];
            settled += one.settled[dye];
            Vat other = best == NONE ? null : world.vats.get(best);
            if (one.water > 0 && (other == null
                || (long) one.dissolved[dye] * other.water > (long) other.dissolved[dye] * one.water)) {
                best = vat;
            }
        }
        return new int[] {world.dyeIn[dye], dissolved, settled, world.vats.get(5).dissolved[dye], best}[what];
    }

    int count(int what) {
        argument(in(what, 0, 9));
        int water = 0;
        int pipes = 0;
        for (int vat = 0; vat < 5; vat++) {
            water += world.vats.get(vat).water;
            for (int other = 0; other < vat; other++) {
                pipes += world.pipes[vat][other] ? 1 : 0;
            }
        }
        return new int[] {world.hours % 24, world.hours, world.valves.size(), pipes, water, world.vats.get(5).water,
            world.waterIn, world.refused, world.setting, saved.size()}[what];
    }

    int ifPassed(int hours, int vat, int what) {
        index(in(vat, 0, 4));
        argument(in(hours, 1, 240) && in(what, 1, 7));
        return vatProperty(world.after(hours), vat, what);
    }

    int emptyIn(int vat) {
        index(in(vat, 0, 4));
        World then = world.copy();
        for (int hours = 0; hours <= 240; hours++) {
            if (then.vats.get(vat).water == 0) {
                return hours;
            }
            then.hour();
        }
        return NONE;
    }

    int round(int what) {
        argument(in(what, 0, 3));
        return world.round()[what % 2];
    }

    int mainValve() {
        int best = NONE;
        int least = Integer.MAX_VALUE;
        for (int valve = 0; valve < world.valves.size(); valve++) {
            World without = world.copy();
            without.valves.remove(valve);
            int out = without.after(24).vats.get(5).water;
            if (out < least) {
                least = out;
                best = valve;
            }
        }
        return best;
    }

    double goneShare() {
        int[] gone = world.vats.get(5).dissolved;
        double in = world.dyeIn[0] + world.dyeIn[1] + world.dyeIn[2];
        return in == 0 ? 0.0 : (gone[0] + gone[1] + gone[2]) / in;
    }

    long digest() {
        List<Long> values = new ArrayList<>();
        for (int what = 0; what <= 9; what++) {
            values.add((long) count(what));
        }
        World then = world.after(24);
        for (int vat = 0; vat < 5; vat++) {
            for (int what = 0; what <= 9; what++) {
                values.add((long) vatOf(vat, what));
            }
            values.add((long) emptyIn(vat));
            values.add((long) vatProperty(then, vat, 1));
            values.add((long) vatProperty(then, vat, 2));
            values.add((long) vatProperty(then, vat, 5));
        }
        for (int valve = 0; valve < world.valves.size(); valve++) {
            for (int what = 0; what <= 6; what++) {
                values.add((long) valveOf(valve, what));
            }
        }
        for (int dye = 0; dye < 3; dye++) {
            for (int what = 0; what <= 4; what++) {
                values.add((long) dyeOf(dye, what));
            }
        }
        int[] round = world.round();
        for (int i = 0; i < 4; i++) {
            values.add((long) round[i % 2]);
        }
        values.add((long) mainValve());
        values.add(Double.doubleToLongBits(goneShare()));
        values.add(slots[0] == null ? 0L : 1L);
        values.add(slots[1] == null ? 0L : 1L);
        values.add((long) buffer.length());
        for (char code : buffer.toCharArray()) {
            values.add((long) code);
        }
        long hash = 3461;
        for (long value : values) {
            hash = 31 * hash + value;
        }
        return hash;
    }
}
