import java.util.function.Consumer;
import java.util.function.Supplier;

/**
 * What the tests of the document's boundary cases share. Each of them has a method for each sentence that names such a
 * case, with the sentence above it; what it prints begins with the number of the promise, or the name of the section.
 */
abstract class Boundaries {
    static final int OK = 0;
    static final int BAD = -1;
    static final int FULL = -2;
    static final int REFUSED = -3;
    static final int CYCLE = -4;
    static final int NONE = -1;

    static final int LOWEST = Integer.MIN_VALUE;
    static final int HIGHEST = Integer.MAX_VALUE;
    // Beside the nearest wrong ones stand those that look like 1, 2 or 8 in their low bits.
    static final int[] NO_DEADLINES = {
        LOWEST, LOWEST + 1, -255, -8, -1, 0, 9, 10, 16, 33, 257, 65537, HIGHEST - 1, HIGHEST};
    // No planner ever has a task under these; 32 to 38, and -32 to -26, are 0 to 6 where a shift wraps around.
    static final int[] NEVER_TASKS = {
        LOWEST, LOWEST + 1, -32, -31, -30, -29, -28, -27, -26, -7, -2, -1,
        7, 8, 31, 32, 33, 34, 35, 36, 37, 38, 64, 128, 256, 65536, HIGHEST - 1, HIGHEST};

    static TwinPlanner planner(int machines, int... deadlines) {
        TwinPlanner x = new TwinPlanner(machines, 7);
        for (int k = 0; k < deadlines.length; k++) {
            Check.due("setting up, add(" + deadlines[k] + ")", x.add(deadlines[k]), k);
        }
        return x;
    }

    static void linkAll(TwinPlanner x, int... pairs) {
        for (int k = 0; k < pairs.length; k += 2) {
            Check.due("setting up, link(" + pairs[k] + ", " + pairs[k + 1] + ")", x.link(pairs[k], pairs[k + 1]), OK);
        }
    }

    /** Links each of the seven tasks to every one with a greater number. */
    static void linkAllForth(TwinPlanner x) {
        for (int pair = 0; pair < 49; pair++) {
            if (pair / 7 < pair % 7) {
                linkAll(x, pair / 7, pair % 7);
            }
        }
    }

    /** Slot 0 holds 0 and 5, slot 1 holds 1 and 2, and 4 comes after 2; the numbers 3 and 6 are free. */
    static TwinPlanner busy() {
        TwinPlanner x = planner(2, 8, 2, 2, 8, 5, 1);
        linkAll(x, 0, 1, 0, 2, 2, 4);
        Check.due("setting up, remove(3)", x.remove(3), true);
        return x;
    }

    /** As busy, with two more tasks that may be anywhere under 3 and 6. */
    static TwinPlanner busyAndFull() {
        TwinPlanner x = busy();
        Check.due("setting up, add(8)", x.add(8), 3);
        Check.due("setting up, add(8)", x.add(8), 6);
        return x;
    }

    static TwinPlanner empty() {
        return new TwinPlanner(2, 7);
    }

    static TwinPlanner emptied() {
        TwinPlanner x = busyAndFull();
        for (int id = 0; id < 7; id++) {
            x.remove(id);
        }
        return x;
    }

    /** Holds a planner that has had the calls against one that hasn't. */
    static void unchanged(String about, Supplier<TwinPlanner> setUp, Consumer<TwinPlanner> calls) {
        TwinPlanner x = setUp.get();
        calls.accept(x);
        TwinPlanner untouched = setUp.get();
        Check.due(about + " changes nothing: the state after it", State.of(x), State.of(untouched));
    }
}
