/** Stirred vats of dye with valves, pipes and settled grains; the document's promises are told at each method. */
public final class DyeVats {
    public static final int NONE = -1;

    private static final int VATS = 5;
    private static final int OUT = VATS;
    private static final int DYES = 3;
    private static final int DAY = 24;
    private static final int MOST_VALVES = 8;
    private static final int MOST_WATER = 2000;
    private static final int MOST_GRAINS = 999;
    private static final int MOST_GRAINS_IN = 99999;
    private static final int MOST_RATE = 500;
    private static final int MOST_SETTING = 200;
    private static final int MOST_HOURS = 240;
    private static final int MOST_HOURS_GONE = 99999;
    private static final int MOST_DAYS = 60;
    private static final int MOST_CODES = 60;
    private static final int MOST_SAVED = 6;
    private static final int SLOTS = 2;
    private static final int FIRST_CAPACITY = 1000;
    private static final int FIRST_SETTING = 20;
    private static final int FIRST_CODE = 33;
    private static final int LAST_CODE = 126;

    // A state is one row of cells, so that a snapshot is one copy; the look of things stands in it in one piece.
    private static final int CAPACITY = 0;
    private static final int PIPES = CAPACITY + VATS;
    private static final int WATER = PIPES + VATS;
    private static final int DISSOLVED = WATER + VATS;
    private static final int SETTLED = DISSOLVED + VATS * DYES;
    private static final int DYE_IN = SETTLED + VATS * DYES;
    private static final int DYE_OUT = DYE_IN + DYES;
    private static final int SETTING = DYE_OUT + DYES;
    private static final int HOURS = SETTING + 1;
    private static final int WATER_IN = HOURS + 1;
    private static final int WATER_OUT = WATER_IN + 1;
    private static final int REFUSED = WATER_OUT + 1;
    private static final int VALVE_COUNT = REFUSED + 1;
    private static final int VALVES = VALVE_COUNT + 1;
    private static final int LOOK = WATER;
    private static final int LOOK_CELLS = DYE_IN - WATER;

    // The cells of one valve; the first five are its parts, in the order in which a plan as a text tells them.
    private static final int FROM = 0;
    private static final int TO = 1;
    private static final int RATE = 2;
    private static final int FIRST = 3;
    private static final int LAST = 4;
    private static final int PARTS = 5;
    private static final int MOVED = 5;
    private static final int VALVE_CELLS = 6;
    private static final int CELLS = VALVES + MOST_VALVES * VALVE_CELLS;

    private static final int LAST_VAT_PROPERTY = 9;
    private static final int LAST_VALVE_PROPERTY = 6;
    private static final int LAST_DYE_PROPERTY = 4;
    private static final int LAST_COUNT = 9;
    private static final long HASH_START = 3461L;

    private final State now = new State();
    private final State trial = new State();
    private final Days days = new Days();
    private final Text text = new Text();
    private final int[] emptyHours = new int[VATS];
    private final int[] slots = new int[SLOTS * CELLS];
    private final boolean[] slotTaken = new boolean[SLOTS];
    private final int[] saved = new int[MOST_SAVED * CELLS];
    private int savedCount = 0;

    public DyeVats() {
        for (int vat = 0; vat < VATS; vat++) {
            now.cells[CAPACITY + vat] = FIRST_CAPACITY;
        }
        now.cells[SETTING] = FIRST_SETTING;
    }

    // ---- vats

    public int fill(int vat, int water) throws IndexOutOfBoundsException, IllegalArgumentException {
        requireVat(vat);
        requireRange(water, 1, MOST_WATER);
        saveState();
        if (water > now.cells[CAPACITY + vat] - now.cells[WATER + vat]) {
            return refuse();
        }
        now.cells[WATER + vat] += water;
        now.cells[WATER_IN] += water;
        return now.cells[WATER + vat];
    }

    public int dye(int vat, int dye, int grains)
            throws IndexOutOfBoundsException, IllegalArgumentException, IllegalStateException {
        requireVat(vat);
        requireDye(dye);
        requireRange(grains, 1, MOST_GRAINS);
        if (now.cells[DYE_IN + dye] + grains > MOST_GRAINS_IN) {
            throw new IllegalStateException("too many grains of this dye");
        }
        saveState();
        if (now.cells[WATER + vat] == 0) {
            return refuse();
        }
        int cell = DISSOLVED + vat * DYES + dye;
        now.cells[cell] += grains;
        now.cells[DYE_IN + dye] += grains;
        return now.cells[cell];
    }

    public int stir(int vat) throws IndexOutOfBoundsException {
        requireVat(vat);
        saveState();
        return now.dissolveSettled(vat);
    }

    public int capacity(int vat, int capacity) throws IndexOutOfBoundsException, IllegalArgumentException {
        requireVat(vat);
        requireRange(capacity, 1, MOST_WATER);
        saveState();
        if (now.cells[WATER + vat] > capacity) {
            return refuse();
        }
        int before = now.cells[CAPACITY + vat];
        now.cells[CAPACITY + vat] = capacity;
        return before;
    }

    // ---- valves, pipes

    public int valve(int from, int to, int rate, int first, int last)
            throws IndexOutOfBoundsException, IllegalArgumentException, IllegalStateException {
        requireVat(from);
        if (to != OUT) {
            requireVat(to);
        }
        if (from == to) {
            throw new IllegalArgumentException("a valve goes to another vat");
        }
        requireRange(rate, 1, MOST_RATE);
        requireRange(first, 0, DAY - 1);
        requireRange(last, first, DAY - 1);
        int number = now.cells[VALVE_COUNT];
        if (number < 0 || number >= MOST_VALVES) {
            throw new IllegalStateException("no more valves");
        }
        saveState();
        int cell = VALVES + number * VALVE_CELLS;
        now.cells[cell + FROM] = from;
        now.cells[cell + TO] = to;
        now.cells[cell + RATE] = rate;
        now.cells[cell + FIRST] = first;
        now.cells[cell + LAST] = last;
        now.cells[cell + MOVED] = 0;
        now.cells[VALVE_COUNT] = number + 1;
        return number;
    }

    public int close(int valve) throws IndexOutOfBoundsException {
        requireValve(valve);
        saveState();
        now.removeValve(valve);
        return now.cells[VALVE_COUNT];
    }

    public int pipe(int one, int other) throws IndexOutOfBoundsException, IllegalArgumentException {
        requireVat(one);
        requireVat(other);
        if (one == other) {
            throw new IllegalArgumentException("a pipe goes to another vat");
        }
        saveState();
        now.cells[PIPES + one] ^= 1 << other;
        now.cells[PIPES + other] ^= 1 << one;
        return now.cells[PIPES + one] >> other & 1;
    }

    public int set(int value) throws IllegalArgumentException {
        requireRange(value, 0, MOST_SETTING);
        saveState();
        int before = now.cells[SETTING];
        now.cells[SETTING] = value;
        return before;
    }

    // ---- hours

    public int pass(int hours) throws IllegalArgumentException, IllegalStateException {
        requireRange(hours, 1, MOST_HOURS);
        if (now.cells[HOURS] + hours > MOST_HOURS_GONE) {
            throw new IllegalStateException("too many hours");
        }
        saveState();
        int before = now.cells[WATER_OUT];
        now.runHours(hours);
        return now.cells[WATER_OUT] - before;
    }

    // ---- texts, snapshots

    public int append(int code) throws IllegalArgumentException, IllegalStateException {
        requireRange(code, FIRST_CODE, LAST_CODE);
        if (text.length < 0 || text.length >= MOST_CODES) {
            throw new IllegalStateException("the buffer is full");
        }
        text.codes[text.length] = code;
        text.length++;
        return text.length;
    }

    public int clearBuffer() {
        int before = text.length;
        text.length = 0;
        return before;
    }

    public int firstError() {
        return text.readCodes();
    }

    public int load() throws IllegalArgumentException, IllegalStateException {
        if (text.readCodes() < text.length || !text.endsWell()) {
            throw new IllegalArgumentException("no plan as a text");
        }
        int valves = text.endedValves + 1;
        if (valves > MOST_VALVES) {
            throw new IllegalStateException("too many valves");
        }
        saveState();
        now.takeValves(text.read, valves);
        text.length = 0;
        return valves;
    }

    public int keep(int slot) throws IllegalArgumentException {
        requireRange(slot, 0, SLOTS - 1);
        System.arraycopy(now.cells, 0, slots, slot * CELLS, CELLS);
        slotTaken[slot] = true;
        return now.hourOfDay();
    }

    public int goBack(int slot) throws IllegalArgumentException, IllegalStateException {
        requireRange(slot, 0, SLOTS - 1);
        if (!slotTaken[slot]) {
            throw new IllegalStateException("no snapshot in the slot");
        }
        saveState();
        System.arraycopy(slots, slot * CELLS, now.cells, 0, CELLS);
        return now.hourOfDay();
    }

    public int undo() throws IllegalStateException {
        if (savedCount <= 0 || savedCount > MOST_SAVED) {
            throw new IllegalStateException("nothing to undo");
        }
        savedCount--;
        System.arraycopy(saved, savedCount * CELLS, now.cells, 0, CELLS);
        return savedCount;
    }

    // ---- looks; nothing is changed

    public int vatOf(int vat, int what) throws IndexOutOfBoundsException, IllegalArgumentException {
        requireVat(vat);
        requireRange(what, 0, LAST_VAT_PROPERTY);
        return now.vatProperty(vat, what);
    }

    public int valveOf(int valve, int what) throws IndexOutOfBoundsException, IllegalArgumentException {
        requireValve(valve);
        requireRange(what, 0, LAST_VALVE_PROPERTY);
        return now.valveProperty(valve, what);
    }

    public int dyeOf(int dye, int what) throws IndexOutOfBoundsException, IllegalArgumentException {
        requireDye(dye);
        requireRange(what, 0, LAST_DYE_PROPERTY);
        return now.dyeProperty(dye, what);
    }

    public int count(int what) throws IllegalArgumentException {
        requireRange(what, 0, LAST_COUNT);
        return numberOf(what);
    }

    // ---- what would be; nothing is changed, and the limit of hours does not matter

    public int ifPassed(int hours, int vat, int what) throws IndexOutOfBoundsException, IllegalArgumentException {
        requireVat(vat);
        requireRange(hours, 1, MOST_HOURS);
        requireRange(what, 1, 7);
        trial.takeFrom(now);
        trial.runHours(hours);
        return trial.vatProperty(vat, what);
    }

    public int emptyIn(int vat) throws IndexOutOfBoundsException {
        requireVat(vat);
        findEmptyHours();
        return emptyHours[vat];
    }

    public int round(int what) throws IllegalArgumentException {
        requireRange(what, 0, 3);
        days.beginWith(now);
        if (what < 2) {
            days.findByRunners();
        } else {
            days.findByLookingBack();
        }
        return what % 2 == 0 ? days.length : days.lead;
    }

    public int mainValve() {
        int best = NONE;
        int least = 0;
        for (int valve = 0; valve < now.cells[VALVE_COUNT]; valve++) {
            trial.takeFrom(now);
            trial.removeValve(valve);
            trial.runHours(DAY);
            int out = trial.cells[WATER_OUT];
            if (best == NONE || out < least) {
                best = valve;
                least = out;
            }
        }
        return best;
    }

    public double goneShare() {
        int in = 0;
        int out = 0;
        for (int dye = 0; dye < DYES; dye++) {
            in += now.cells[DYE_IN + dye];
            out += now.cells[DYE_OUT + dye];
        }
        return in > 0 ? (double) out / (double) in : 0.0;
    }

    public long digest() {
        long hash = HASH_START;
        for (int what = 0; what <= LAST_COUNT; what++) {
            hash = 31 * hash + numberOf(what);
        }
        hash = hashVats(hash);
        hash = hashValves(hash);
        hash = hashDyes(hash);
        days.beginWith(now);
        days.findByRunners();
        hash = 31 * (31 * hash + days.length) + days.lead;
        days.findByLookingBack();
        hash = 31 * (31 * hash + days.length) + days.lead;
        hash = 31 * hash + mainValve();
        hash = 31 * hash + bitsOfShare(goneShare());
        for (int slot = 0; slot < SLOTS; slot++) {
            hash = 31 * hash + (slotTaken[slot] ? 1 : 0);
        }
        hash = 31 * hash + text.length;
        for (int i = 0; i < text.length && i < MOST_CODES; i++) {
            hash = 31 * hash + text.codes[i];
        }
        return hash;
    }

    private long hashVats(long start) {
        long hash = start;
        findEmptyHours();
        trial.takeFrom(now);
        trial.runHours(DAY);
        for (int vat = 0; vat < VATS; vat++) {
            for (int what = 0; what <= LAST_VAT_PROPERTY; what++) {
                hash = 31 * hash + now.vatProperty(vat, what);
            }
            hash = 31 * hash + emptyHours[vat];
            hash = 31 * hash + trial.vatProperty(vat, 1);
            hash = 31 * hash + trial.vatProperty(vat, 2);
            hash = 31 * hash + trial.vatProperty(vat, 5);
        }
        return hash;
    }

    private long hashValves(long start) {
        long hash = start;
        for (int valve = 0; valve < now.cells[VALVE_COUNT]; valve++) {
            for (int what = 0; what <= LAST_VALVE_PROPERTY; what++) {
                hash = 31 * hash + now.valveProperty(valve, what);
            }
        }
        return hash;
    }

    private long hashDyes(long start) {
        long hash = start;
        for (int dye = 0; dye < DYES; dye++) {
            for (int what = 0; what <= LAST_DYE_PROPERTY; what++) {
                hash = 31 * hash + now.dyeProperty(dye, what);
            }
        }
        return hash;
    }

    /** The language rules leave the library's function for it out; a share is from 0 to 1, so no other doubles matter. */
    private static long bitsOfShare(double share) {
        if (share <= 0.0) {
            return 0L;
        }
        double mantissa = share;
        long exponent = 1023L;
        while (mantissa < 1.0 && exponent > 1L) {
            mantissa = mantissa * 2.0;
            exponent--;
        }
        return (exponent << 52) + (long) ((mantissa - 1.0) * 4503599627370496.0);
    }

    private int numberOf(int what) {
        switch (what) {
            case 0: return now.hourOfDay();
            case 1: return now.cells[HOURS];
            case 2: return now.cells[VALVE_COUNT];
            case 3: return now.pipesLaid();
            case 4: return now.waterInAll();
            case 5: return now.cells[WATER_OUT];
            case 6: return now.cells[WATER_IN];
            case 7: return now.cells[REFUSED];
            case 8: return now.cells[SETTING];
            default: return savedCount;
        }
    }

    /** One run of hours tells it for all vats. */
    private void findEmptyHours() {
        trial.takeFrom(now);
        for (int vat = 0; vat < VATS; vat++) {
            emptyHours[vat] = NONE;
        }
        for (int hours = 0; hours <= MOST_HOURS; hours++) {
            if (hours > 0) {
                trial.runHours(1);
            }
            for (int vat = 0; vat < VATS; vat++) {
                if (emptyHours[vat] == NONE && trial.cells[WATER + vat] == 0) {
                    emptyHours[vat] = hours;
                }
            }
        }
    }

    private void saveState() {
        if (savedCount < 0 || savedCount >= MOST_SAVED) {
            savedCount = MOST_SAVED - 1;
            System.arraycopy(saved, CELLS, saved, 0, savedCount * CELLS);
        }
        System.arraycopy(now.cells, 0, saved, savedCount * CELLS, CELLS);
        savedCount++;
    }

    private int refuse() {
        now.cells[REFUSED]++;
        return NONE;
    }

    private static void requireVat(int vat) {
        if (vat < 0 || vat >= VATS) {
            throw new IndexOutOfBoundsException("no such vat");
        }
    }

    private static void requireDye(int dye) {
        if (dye < 0 || dye >= DYES) {
            throw new IndexOutOfBoundsException("no such dye");
        }
    }

    private void requireValve(int valve) {
        if (valve < 0 || valve >= now.cells[VALVE_COUNT] || valve >= MOST_VALVES) {
            throw new IndexOutOfBoundsException("no such valve");
        }
    }

    private static void requireRange(int value, int least, int most) {
        if (value < least || value > most) {
            throw new IllegalArgumentException("out of range");
        }
    }

    /** All that a snapshot holds: the vats, the pipes and valves, and what is counted. */
    private static final class State {
        final int[] cells = new int[CELLS];

        void takeFrom(State other) {
            System.arraycopy(other.cells, 0, cells, 0, CELLS);
        }

        int hourOfDay() {
            return cells[HOURS] % DAY;
        }

        /** How many grains of one dye the vat can hold dissolved. */
        int limitIn(int vat) {
            return isVat(vat) ? cells[WATER + vat] * cells[SETTING] / 100 : 0;
        }

        int pipesLaid() {
            int ends = 0;
            for (int vat = 0; vat < VATS; vat++) {
                ends += Integer.bitCount(cells[PIPES + vat]);
            }
            return ends / 2;
        }

        int waterInAll() {
            int sum = 0;
            for (int vat = 0; vat < VATS; vat++) {
                sum += cells[WATER + vat];
            }
            return sum;
        }

        int vatProperty(int vat, int what) {
            if (!isVat(vat)) {
                return 0;
            }
            switch (what) {
                case 0: return cells[CAPACITY + vat];
                case 1: return cells[WATER + vat];
                case 2:
                case 3:
                case 4: return cells[DISSOLVED + vat * DYES + what - 2];
                case 5:
                case 6:
                case 7: return cells[SETTLED + vat * DYES + what - 5];
                case 8: return cells[PIPES + vat];
                default: return limitIn(vat);
            }
        }

        int valveProperty(int valve, int what) {
            if (valve < 0 || valve >= MOST_VALVES) {
                return 0;
            }
            int cell = VALVES + valve * VALVE_CELLS;
            switch (what) {
                case 0: return cells[cell + FROM];
                case 1: return cells[cell + TO];
                case 2: return cells[cell + RATE];
                case 3: return cells[cell + FIRST];
                case 4: return cells[cell + LAST];
                case 5: return isOpen(cell, hourOfDay()) ? 1 : 0;
                default: return cells[cell + MOVED];
            }
        }

        int dyeProperty(int dye, int what) {
            if (dye < 0 || dye >= DYES) {
                return 0;
            }
            switch (what) {
                case 0: return cells[DYE_IN + dye];
                case 1: return grainsInAll(DISSOLVED + dye);
                case 2: return grainsInAll(SETTLED + dye);
                case 3: return cells[DYE_OUT + dye];
                default: return strongestVat(dye);
            }
        }

        void removeValve(int valve) {
            int left = cells[VALVE_COUNT] - 1;
            if (valve < 0 || valve > left || left >= MOST_VALVES) {
                return;
            }
            int cell = VALVES + valve * VALVE_CELLS;
            System.arraycopy(cells, cell + VALVE_CELLS, cells, cell, (left - valve) * VALVE_CELLS);
            cells[VALVE_COUNT] = left;
        }

        /** Takes the valves that a text has told in place of all. */
        void takeValves(int[] parts, int valves) {
            int taken = 0;
            while (taken < valves && taken < MOST_VALVES && (taken + 1) * PARTS <= parts.length) {
                int cell = VALVES + taken * VALVE_CELLS;
                System.arraycopy(parts, taken * PARTS, cells, cell, PARTS);
                cells[cell + MOVED] = 0;
                taken++;
            }
            cells[VALVE_COUNT] = taken;
        }

        /** Returns how many grains become dissolved. */
        int dissolveSettled(int vat) {
            if (!isVat(vat)) {
                return 0;
            }
            int sum = 0;
            for (int dye = 0; dye < DYES; dye++) {
                int dissolved = DISSOLVED + vat * DYES + dye;
                int settled = SETTLED + vat * DYES + dye;
                int grains = Math.min(cells[settled], Math.max(0, limitIn(vat) - cells[dissolved]));
                cells[settled] -= grains;
                cells[dissolved] += grains;
                sum += grains;
            }
            return sum;
        }

        void runHours(int hours) {
            for (int i = 0; i < hours; i++) {
                runValves();
                levelPipes();
                settleGrains();
                cells[HOURS]++;
            }
        }

        private void runValves() {
            int hour = hourOfDay();
            for (int valve = 0; valve < cells[VALVE_COUNT] && valve < MOST_VALVES; valve++) {
                int cell = VALVES + valve * VALVE_CELLS;
                if (isOpen(cell, hour)) {
                    cells[cell + MOVED] += moveWater(cells[cell + FROM], cells[cell + TO], cells[cell + RATE]);
                }
            }
        }

        private void levelPipes() {
            for (int one = 0; one < VATS; one++) {
                int pipes = cells[PIPES + one];
                for (int other = one + 1; other < VATS; other++) {
                    if ((pipes >> other & 1) == 1) {
                        int more = cells[WATER + one] - cells[WATER + other];
                        if (more >= 0) {
                            moveWater(one, other, more / 2);
                        } else {
                            moveWater(other, one, -more / 2);
                        }
                    }
                }
            }
        }

        private void settleGrains() {
            for (int vat = 0; vat < VATS; vat++) {
                int limit = limitIn(vat);
                for (int dye = 0; dye < DYES; dye++) {
                    int dissolved = DISSOLVED + vat * DYES + dye;
                    int beyond = cells[dissolved] - limit;
                    if (beyond > 0) {
                        cells[dissolved] -= beyond;
                        cells[SETTLED + vat * DYES + dye] += beyond;
                    }
                }
            }
        }

        /** Moves water and the dye in it; returns how much water is moved. */
        private int moveWater(int from, int to, int wanted) {
            if (!isVat(from) || to != OUT && !isVat(to)) {
                return 0;
            }
            int water = cells[WATER + from];
            int moved = Math.min(wanted, water);
            if (to != OUT) {
                moved = Math.min(moved, cells[CAPACITY + to] - cells[WATER + to]);
            }
            if (water <= 0 || moved <= 0) {
                return 0;
            }
            for (int dye = 0; dye < DYES; dye++) {
                int grains = cells[DISSOLVED + from * DYES + dye] * moved / water;
                cells[DISSOLVED + from * DYES + dye] -= grains;
                cells[to == OUT ? DYE_OUT + dye : DISSOLVED + to * DYES + dye] += grains;
            }
            cells[WATER + from] -= moved;
            cells[to == OUT ? WATER_OUT : WATER + to] += moved;
            return moved;
        }

        private boolean isOpen(int valveCell, int hour) {
            return valveCell >= VALVES && valveCell + LAST < CELLS
                && hour >= cells[valveCell + FIRST] && hour <= cells[valveCell + LAST];
        }

        private int grainsInAll(int cellOfFirstVat) {
            int sum = 0;
            for (int vat = 0; vat < VATS; vat++) {
                int cell = cellOfFirstVat + vat * DYES;
                if (cell >= 0 && cell < CELLS) {
                    sum += cells[cell];
                }
            }
            return sum;
        }

        /** The vat with the greatest share of the dye; shares are compared as fractions, by their cross products. */
        private int strongestVat(int dye) {
            if (dye < 0 || dye >= DYES) {
                return NONE;
            }
            int best = NONE;
            int bestGrains = 0;
            int bestWater = 1;
            for (int vat = 0; vat < VATS; vat++) {
                int water = cells[WATER + vat];
                int grains = cells[DISSOLVED + vat * DYES + dye];
                if (water > 0 && (best == NONE || grains * bestWater > bestGrains * water)) {
                    best = vat;
                    bestGrains = grains;
                    bestWater = water;
                }
            }
            return best;
        }

        private static boolean isVat(int vat) {
            return vat >= 0 && vat < VATS;
        }
    }

    /** The looks behind whole days, and the round that they make. */
    private static final class Days {
        // The fast runner comes to twice the days of the slow one.
        private static final int MOST_REACHED = 2 * MOST_DAYS;

        final State runner = new State();
        final int[] looks = new int[(MOST_REACHED + 1) * LOOK_CELLS];
        int reached = 0;
        int length = NONE;
        int lead = NONE;

        void beginWith(State start) {
            runner.takeFrom(start);
            reached = 0;
            System.arraycopy(runner.cells, LOOK, looks, 0, LOOK_CELLS);
        }

        /** A look leads to the next one alone, so where the runners meet, the round has been run through. */
        void findByRunners() {
            length = NONE;
            lead = NONE;
            int meeting = 0;
            do {
                meeting++;
                reachDay(2 * meeting);
            } while (meeting < MOST_DAYS && !isSameLook(meeting, 2 * meeting));
            if (!isSameLook(meeting, 2 * meeting)) {
                return;
            }
            // The meeting is a multiple of the round and not ahead of the lead: all days from here on are reached.
            int start = 0;
            while (start < meeting && !isSameLook(start, meeting + start)) {
                start++;
            }
            int distance = 1;
            while (distance < meeting && !isSameLook(start, start + distance)) {
                distance++;
            }
            if (start + distance <= MOST_DAYS) {
                length = distance;
                lead = start;
            }
        }

        void findByLookingBack() {
            length = NONE;
            lead = NONE;
            for (int day = 1; day <= MOST_DAYS; day++) {
                reachDay(day);
                for (int ahead = 0; ahead < day; ahead++) {
                    if (isSameLook(ahead, day)) {
                        length = day - ahead;
                        lead = ahead;
                        return;
                    }
                }
            }
        }

        private void reachDay(int day) {
            while (reached < day && reached < MOST_REACHED) {
                runner.runHours(DAY);
                reached++;
                System.arraycopy(runner.cells, LOOK, looks, reached * LOOK_CELLS, LOOK_CELLS);
            }
        }

        /** Whole days leave the hour as it is, so the hour needs no comparing. */
        private boolean isSameLook(int one, int other) {
            if (one < 0 || other < 0 || one > MOST_REACHED || other > MOST_REACHED) {
                return false;
            }
            for (int i = 0; i < LOOK_CELLS; i++) {
                if (looks[one * LOOK_CELLS + i] != looks[other * LOOK_CELLS + i]) {
                    return false;
                }
            }
            return true;
        }
    }

    /** The buffer, read as a plan: valves of five numbers, each of them with its sign behind it. */
    private static final class Text {
        private static final String SIGNS = ">*@-;";

        final int[] codes = new int[MOST_CODES];
        int length = 0;
        final int[] read = new int[MOST_VALVES * PARTS];
        int endedValves = 0;
        private final int[] valve = new int[PARTS];
        private int part = FROM;
        // NONE ahead of its first digit.
        private int number = NONE;

        /** Returns the index of the first syntax error, or the length. */
        int readCodes() {
            endedValves = 0;
            part = FROM;
            number = NONE;
            for (int i = 0; i < length && i < MOST_CODES; i++) {
                if (!takesCode(codes[i])) {
                    return i;
                }
            }
            return length;
        }

        /** Tells if the codes that were read are a whole plan. */
        boolean endsWell() {
            return part == LAST && isWholeNumber();
        }

        private boolean takesCode(int code) {
            if (part < 0 || part >= PARTS) {
                return false;
            }
            if (code >= '0' && code <= '9') {
                return takesDigit(code - '0');
            }
            if (code != SIGNS.charAt(part) || !isWholeNumber()) {
                return false;
            }
            number = NONE;
            if (part == LAST) {
                endedValves++;
                part = FROM;
            } else {
                part++;
            }
            return true;
        }

        private boolean takesDigit(int digit) {
            if (part < 0 || part >= PARTS || number == 0) {
                return false;
            }
            int longer = number == NONE ? digit : number * 10 + digit;
            if (!canBecomeWhole(longer)) {
                return false;
            }
            number = longer;
            valve[part] = longer;
            if (endedValves >= 0 && endedValves < MOST_VALVES) {
                read[endedValves * PARTS + part] = longer;
            }
            return true;
        }

        private boolean isWholeNumber() {
            return number != NONE && number >= leastOfPart() && number <= mostOfPart();
        }

        /** Tells if a number of this part begins with these digits: itself, or one that is 1 or 2 digits longer. */
        private boolean canBecomeWhole(int start) {
            if (part == TO && start == valve[FROM]) {
                return false;
            }
            if (start == 0) {
                return leastOfPart() == 0;
            }
            for (int reach = 1; reach <= 100; reach *= 10) {
                if (start * reach <= mostOfPart() && start * reach + reach - 1 >= leastOfPart()) {
                    return true;
                }
            }
            return false;
        }

        private int leastOfPart() {
            switch (part) {
                case RATE: return 1;
                case LAST: return valve[FIRST];
                default: return 0;
            }
        }

        private int mostOfPart() {
            switch (part) {
                case FROM: return VATS - 1;
                case TO: return OUT;
                case RATE: return MOST_RATE;
                default: return DAY - 1;
            }
        }
    }
}
