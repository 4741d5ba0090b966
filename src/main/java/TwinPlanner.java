/** A planner for tasks that take one slot each on one or two like machines. */
public final class TwinPlanner {
    public static final int OK = 0;
    public static final int BAD = -1;
    public static final int FULL = -2;
    public static final int REFUSED = -3;
    public static final int CYCLE = -4;
    public static final int NONE = -1;

    private static final int MOST_MACHINES = 2;
    private static final int MOST_TASKS = 7;
    private static final int MOST_SLOTS = 8;
    private static final int TASK_SETS = 1 << MOST_TASKS;

    // Stands above every deadline, so that nothing can follow a set that can't be done.
    private static final int NEVER = 100;

    private final int machines;
    private final int capacity;

    // Sets of tasks are held as bits: bit i stands for task i.
    private int present = 0;
    private final int[] deadlines = new int[MOST_TASKS];
    private final int[] before = new int[MOST_TASKS];

    // A question "what if" is asked of these copies, so that a refusal has nothing to undo.
    private final int[] trialDeadlines = new int[MOST_TASKS];
    private final int[] trialBefore = new int[MOST_TASKS];

    // The least number of slots from the beginning in which each set of tasks can be done.
    private final int[] slotsFor = new int[TASK_SETS];

    public TwinPlanner(int machines, int capacity) {
        this.machines = clamp(machines, MOST_MACHINES);
        this.capacity = clamp(capacity, MOST_TASKS);
    }

    public int add(int d) {
        int answer = probe(d);
        if (answer >= 0) {
            place(answer, d);
        }
        return answer;
    }

    public int probe(int d) {
        return isDeadline(d) ? numberForNew(d, NONE) : BAD;
    }

    public int addBefore(int d, int j) {
        if (!isDeadline(d) || !isTask(j)) {
            return BAD;
        }
        int answer = numberForNew(d, j);
        if (answer >= 0) {
            place(answer, d);
            before[j] |= 1 << answer;
        }
        return answer;
    }

    public int setDeadline(int id, int d) {
        if (!isTask(id) || !isDeadline(d)) {
            return BAD;
        }
        startTrial(MOST_SLOTS);
        trialDeadlines[id] = d;
        if (trialSlots(present) == NEVER) {
            return REFUSED;
        }
        deadlines[id] = d;
        return OK;
    }

    public int link(int i, int j) {
        int answer = answerToLink(i, j);
        if (answer == OK) {
            before[j] |= 1 << i;
        }
        return answer;
    }

    public boolean unlink(int i, int j) {
        if (!linked(i, j)) {
            return false;
        }
        before[j] &= ~(1 << i);
        return true;
    }

    public boolean remove(int id) {
        if (!isTask(id)) {
            return false;
        }
        present &= ~(1 << id);
        before[id] = 0;
        for (int k = 0; k < MOST_TASKS; k++) {
            before[k] &= ~(1 << id);
        }
        return true;
    }

    public int tasks() {
        return present;
    }

    public int deadline(int id) {
        return isTask(id) ? deadlines[id] : NONE;
    }

    public boolean linked(int i, int j) {
        return isTask(i) && isTask(j) && has(before[j], i);
    }

    public int span() {
        startTrial(MOST_SLOTS);
        return trialSlots(present);
    }

    public int earliest(int id) {
        return isTask(id) ? tightest(id) - 1 : NONE;
    }

    public int tightest(int id) {
        if (!isTask(id)) {
            return NONE;
        }
        startTrial(MOST_SLOTS);
        return tightenTrial(id);
    }

    public boolean couldPrecede(int i, int j) {
        return answerToLink(i, j) == OK;
    }

    public int slotOf(int id) {
        return firstSlot(id, MOST_SLOTS);
    }

    public int shortSlotOf(int id) {
        int slots = span();
        return firstSlot(id, slots);
    }

    private static int clamp(int value, int most) {
        if (value < 1) {
            return 1;
        }
        return value > most ? most : value;
    }

    private static boolean has(int set, int task) {
        return (set >> task & 1) != 0;
    }

    private static boolean isDeadline(int d) {
        return d >= 1 && d <= MOST_SLOTS;
    }

    private boolean isTask(int id) {
        return id >= 0 && id < MOST_TASKS && has(present, id);
    }

    private void place(int number, int d) {
        present |= 1 << number;
        deadlines[number] = d;
    }

    /** The number a new task would get, FULL or REFUSED; follower is the task it comes before, or NONE. */
    private int numberForNew(int d, int follower) {
        int number = leastFreeNumber();
        if (number >= capacity) {
            return FULL;
        }
        startTrial(MOST_SLOTS);
        trialDeadlines[number] = d;
        if (isTask(follower)) {
            trialBefore[follower] |= 1 << number;
        }
        int slots = trialSlots(present | 1 << number);
        return slots == NEVER ? REFUSED : number;
    }

    private int leastFreeNumber() {
        int number = 0;
        while (number < MOST_TASKS && isTask(number)) {
            number++;
        }
        return number;
    }

    private int answerToLink(int i, int j) {
        if (!isTask(i) || !isTask(j) || i == j) {
            return BAD;
        }
        if (has(before[j], i)) {
            return OK;
        }
        int ahead = allBefore(i);
        if (has(ahead, j)) {
            return CYCLE;
        }
        startTrial(MOST_SLOTS);
        trialBefore[j] |= 1 << i;
        return trialSlots(present) == NEVER ? REFUSED : OK;
    }

    /** The tasks from which the given one can be reached along links. */
    private int allBefore(int id) {
        int found = before[id];
        // A way along links passes each task at most once, so this many rounds find all.
        for (int round = 0; round < MOST_TASKS; round++) {
            for (int k = 0; k < MOST_TASKS; k++) {
                if (has(found, k)) {
                    found |= before[k];
                }
            }
        }
        return found;
    }

    /** Copies what is there into the trial, with no deadline above the given number of slots. */
    private void startTrial(int slots) {
        for (int k = 0; k < MOST_TASKS; k++) {
            trialDeadlines[k] = deadlines[k] < slots ? deadlines[k] : slots;
            trialBefore[k] = before[k];
        }
    }

    /** The least number of slots in which the trial's tasks can be done; NEVER when there is no good timetable. */
    private int trialSlots(int tasks) {
        slotsFor[0] = 0;
        // Taking tasks out of a set makes its number less, so each set finds the smaller ones ready.
        for (int set = 1; set < TASK_SETS; set++) {
            slotsFor[set] = (set & ~tasks) == 0 ? slotsForSet(set) : NEVER;
        }
        return slotsFor[tasks];
    }

    private int slotsForSet(int set) {
        int least = NEVER;
        for (int a = 0; a < MOST_TASKS; a++) {
            // Where b is a itself, the task is alone in the last slot.
            int lastB = machines > 1 ? MOST_TASKS - 1 : a;
            for (int b = a; b <= lastB; b++) {
                if (has(set, a) && has(set, b)) {
                    int slots = slotsEndingWith(set, a, b);
                    least = slots < least ? slots : least;
                }
            }
        }
        return least;
    }

    /** The least number of slots for the set when a and b are what the last of them holds. */
    private int slotsEndingWith(int set, int a, int b) {
        int rest = set & ~(1 << a | 1 << b);
        // Done sooner, the rest only leaves more room: no other count for it need be looked at.
        int slots = slotsFor[rest] + 1;
        boolean linksKept = ((trialBefore[a] | trialBefore[b]) & ~rest) == 0;
        boolean inTime = slots <= trialDeadlines[a] && slots <= trialDeadlines[b];
        return linksKept && inTime ? slots : NEVER;
    }

    /** Gives the task the least deadline with which the trial still has a good timetable, and answers it. */
    private int tightenTrial(int id) {
        int known = trialDeadlines[id];
        for (int d = 1; d < known; d++) {
            trialDeadlines[id] = d;
            if (trialSlots(present) != NEVER) {
                return d;
            }
        }
        trialDeadlines[id] = known;
        return known;
    }

    /** The task's slot in the first of the good timetables that keep to the given number of slots. */
    private int firstSlot(int id, int slots) {
        if (!isTask(id)) {
            return NONE;
        }
        startTrial(slots);
        int slot = NONE;
        for (int k = 0; k <= id; k++) {
            if (isTask(k)) {
                // With its least deadline a task can only be in the slot just before it: it is pinned there.
                slot = tightenTrial(k) - 1;
            }
        }
        return slot;
    }
}
