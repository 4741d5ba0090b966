/**
 * The document's words done the slow way: every timetable is tried.
 * It shares no idea with TwinPlanner, so that the two don't err alike.
 */
final class Model {
    private static final int SLOTS = 8;

    private final int machines;
    private final int capacity;
    private final boolean[] there = new boolean[7];
    private final int[] deadlines = new int[7];
    private final boolean[][] links = new boolean[7][7];

    // What a walk over the timetables works on and finds.
    private final int[] slots = new int[7];
    private final int[] used = new int[SLOTS];
    private boolean onlyOne;
    private int walkEnd;
    private boolean found;
    private int span;
    private final int[] earliest = new int[7];
    private final int[] first = new int[7];

    // The answers for the present state are kept until it changes.
    private boolean known = false;
    private int knownSpan;
    private final int[] knownEarliest = new int[7];
    private final int[] knownFirst = new int[7];
    private final int[] knownShort = new int[7];

    Model(int machines, int capacity) {
        this.machines = Math.max(1, Math.min(2, machines));
        this.capacity = Math.max(1, Math.min(7, capacity));
    }

    private boolean task(int id) {
        return id >= 0 && id < 7 && there[id];
    }

    int add(int d) {
        int answer = probe(d);
        if (answer >= 0) {
            there[answer] = true;
            deadlines[answer] = d;
            known = false;
        }
        return answer;
    }

    int probe(int d) {
        if (d < 1 || d > SLOTS) {
            return TwinPlanner.BAD;
        }
        return newTask(d, -1, false);
    }

    int addBefore(int d, int j) {
        if (d < 1 || d > SLOTS || !task(j)) {
            return TwinPlanner.BAD;
        }
        return newTask(d, j, true);
    }

    private int newTask(int d, int j, boolean keep) {
        int count = 0;
        for (boolean one : there) {
            count += one ? 1 : 0;
        }
        if (count >= capacity) {
            return TwinPlanner.FULL;
        }
        int n = 0;
        while (there[n]) {
            n++;
        }
        there[n] = true;
        deadlines[n] = d;
        if (j >= 0) {
            links[n][j] = true;
        }
        boolean good = someGood();
        if (good && keep) {
            known = false;
        } else {
            there[n] = false;
            if (j >= 0) {
                links[n][j] = false;
            }
        }
        return good ? n : TwinPlanner.REFUSED;
    }

    int setDeadline(int id, int d) {
        if (!task(id) || d < 1 || d > SLOTS) {
            return TwinPlanner.BAD;
        }
        int old = deadlines[id];
        deadlines[id] = d;
        if (!someGood()) {
            deadlines[id] = old;
            return TwinPlanner.REFUSED;
        }
        known = false;
        return TwinPlanner.OK;
    }

    int link(int i, int j) {
        int answer = linkAnswer(i, j);
        if (answer == TwinPlanner.OK) {
            links[i][j] = true;
            known = false;
        }
        return answer;
    }

    private int linkAnswer(int i, int j) {
        if (!task(i) || !task(j) || i == j) {
            return TwinPlanner.BAD;
        }
        if (links[i][j]) {
            return TwinPlanner.OK;
        }
        if (way(j, i)) {
            return TwinPlanner.CYCLE;
        }
        links[i][j] = true;
        boolean good = someGood();
        links[i][j] = false;
        return good ? TwinPlanner.OK : TwinPlanner.REFUSED;
    }

    private boolean way(int from, int to) {
        if (from == to) {
            return true;
        }
        for (int k = 0; k < 7; k++) {
            if (links[from][k] && way(k, to)) {
                return true;
            }
        }
        return false;
    }

    boolean unlink(int i, int j) {
        boolean was = linked(i, j);
        if (was) {
            links[i][j] = false;
            known = false;
        }
        return was;
    }

    boolean remove(int id) {
        if (!task(id)) {
            return false;
        }
        there[id] = false;
        for (int k = 0; k < 7; k++) {
            links[id][k] = false;
            links[k][id] = false;
        }
        known = false;
        return true;
    }

    int tasks() {
        int bits = 0;
        for (int k = 0; k < 7; k++) {
            bits += there[k] ? 1 << k : 0;
        }
        return bits;
    }

    int deadline(int id) {
        return task(id) ? deadlines[id] : TwinPlanner.NONE;
    }

    boolean linked(int i, int j) {
        return task(i) && task(j) && links[i][j];
    }

    int span() {
        learn();
        return knownSpan;
    }

    int earliest(int id) {
        learn();
        return task(id) ? knownEarliest[id] : TwinPlanner.NONE;
    }

    int tightest(int id) {
        if (!task(id)) {
            return TwinPlanner.NONE;
        }
        int old = deadlines[id];
        int d = 1;
        deadlines[id] = d;
        while (!someGood()) {
            d++;
            deadlines[id] = d;
        }
        deadlines[id] = old;
        return d;
    }

    boolean couldPrecede(int i, int j) {
        return linkAnswer(i, j) == TwinPlanner.OK;
    }

    int slotOf(int id) {
        learn();
        return task(id) ? knownFirst[id] : TwinPlanner.NONE;
    }

    int shortSlotOf(int id) {
        learn();
        return task(id) ? knownShort[id] : TwinPlanner.NONE;
    }

    private void learn() {
        if (known) {
            return;
        }
        walk(SLOTS, false);
        knownSpan = span;
        System.arraycopy(earliest, 0, knownEarliest, 0, 7);
        System.arraycopy(first, 0, knownFirst, 0, 7);
        walk(knownSpan, true);
        System.arraycopy(first, 0, knownShort, 0, 7);
        known = true;
    }

    private boolean someGood() {
        walk(SLOTS, true);
        return found;
    }

    /** Goes through the good timetables below the given slot in dictionary order, or to the first of them. */
    private void walk(int end, boolean stopAtFirst) {
        onlyOne = stopAtFirst;
        walkEnd = end;
        found = false;
        span = SLOTS;
        java.util.Arrays.fill(earliest, SLOTS);
        java.util.Arrays.fill(used, 0);
        walkFrom(0, 0);
    }

    private void walkFrom(int k, int slotsUsed) {
        if (k == 7) {
            meet(slotsUsed);
            return;
        }
        if (!there[k]) {
            walkFrom(k + 1, slotsUsed);
            return;
        }
        for (int s = 0; s < Math.min(deadlines[k], walkEnd) && !(found && onlyOne); s++) {
            if (used[s] < machines && keepsLinks(k, s)) {
                used[s]++;
                slots[k] = s;
                walkFrom(k + 1, Math.max(slotsUsed, s + 1));
                used[s]--;
            }
        }
    }

    private boolean keepsLinks(int k, int s) {
        for (int other = 0; other < k; other++) {
            if (links[other][k] && slots[other] >= s || links[k][other] && slots[other] <= s) {
                return false;
            }
        }
        return true;
    }

    private void meet(int slotsUsed) {
        if (!found) {
            System.arraycopy(slots, 0, first, 0, 7);
        }
        found = true;
        span = Math.min(span, slotsUsed);
        for (int k = 0; k < 7; k++) {
            earliest[k] = Math.min(earliest[k], slots[k]);
        }
    }
}
