/** A row of numbers that is the same in every run. */
final class Dice {
    private long state;

    Dice(long seed) {
        state = seed * 2862933555777941757L + 3037000493L;
        below(2);
        below(2);
    }

    int below(int bound) {
        state = state * 6364136223846793005L + 1442695040888963407L;
        return (int) ((state >>> 33) % bound);
    }

    int from(int least, int most) {
        return least + below(most - least + 1);
    }

    String valveText() {
        int from = below(5);
        int to = (from + 1 + below(5)) % 6;
        int first = below(24);
        return from + ">" + to + "*" + from(1, below(3) == 0 ? 500 : 20) + "@" + first + "-" + from(first, 23);
    }
}
