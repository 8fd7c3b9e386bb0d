import java.util.TreeSet;

/** Ints about a limit. */
final class Ints {
    /** A program that cuts an int down to some of its bits takes each of these for zero. */
    private static final int[] TURNS = {
        0, 4, 32, 64, 128, 256, 1 << 15, 1 << 16, 1 << 24, 1 << 30, Integer.MIN_VALUE, 3 << 30, -256, -128, -64, -32, -4
    };

    private Ints() {
    }

    /** Ints outside [0, limit): next to it, at the ends of int, and some that wrap round into it. */
    static int[] outside(int limit) {
        TreeSet<Integer> found = new TreeSet<>();
        for (int turn : TURNS) {
            for (int near = -2; near <= 2; near++) {
                found.add(turn + near);
                found.add(turn + limit + near);
                found.add(turn - limit + near);
            }
        }
        found.removeIf(value -> value >= 0 && value < limit);
        return found.stream().mapToInt(Integer::intValue).toArray();
    }
}
