/**
 * Long runs of mixed calls, each answer held against the Model's. The runs are the same every time.
 * An object gets no more than the 512 calls for which the document promises its answers.
 */
public final class ModelTest {
    private static final int CALLS = 512;
    private static final int RUNS = 500;
    private static final int[] ODD_NUMBERS = {
        Integer.MIN_VALUE, Integer.MIN_VALUE + 1, -33, -32, -31, -8, -2, -1, 0,
        7, 8, 9, 16, 31, 32, 33, 34, 64, 96, 128, 256, Integer.MAX_VALUE - 1, Integer.MAX_VALUE};
    // The share of each call in a run, in the order of the document's face; each row is a kind of run.
    private static final int[][] SHARES = {
        {6, 3, 4, 4, 8, 2, 2, 1, 1, 2, 3, 4, 3, 4, 6, 6},
        {9, 2, 2, 6, 16, 1, 1, 1, 1, 2, 4, 4, 4, 6, 8, 8},
        {2, 1, 9, 3, 3, 3, 3, 1, 1, 2, 3, 3, 3, 3, 4, 4},
        {1, 1, 1, 1, 1, 1, 1, 1, 1, 1, 1, 1, 1, 1, 1, 1}};

    private static long seed;

    public static void main(String[] args) {
        for (int run = 0; run < RUNS && Check.wrong() < 20; run++) {
            seed = run * 7919L + 17;
            oneRun(run);
        }
        Check.end();
    }

    private static void oneRun(int run) {
        int machines = run % 10 == 9 ? oddNumber() : 1 + run % 2;
        int capacity = run % 11 == 10 ? oddNumber() : 7 - below(2) * below(7);
        int[] shares = SHARES[run / 2 % SHARES.length];
        int leastDeadline = 1 + below(5);
        TwinPlanner planner = new TwinPlanner(machines, capacity);
        Model model = new Model(machines, capacity);
        String about = "run " + run + " of (" + machines + ", " + capacity + "), call ";
        int wrongBefore = Check.wrong();
        for (int call = 0; call < CALLS && Check.wrong() == wrongBefore; call++) {
            oneCall(planner, model, about + call + ": ", pick(shares), leastDeadline);
        }
    }

    private static void oneCall(TwinPlanner x, Model m, String about, int which, int leastDeadline) {
        int i = taskNumber();
        int j = taskNumber();
        int d = below(25) == 0 ? below(2) * 9 : below(30) == 0 ? oddNumber() : leastDeadline + below(9 - leastDeadline);
        String ij = "(" + i + ", " + j + ")";
        switch (which) {
            case 0 -> Check.due(about + "add(" + d + ")", x.add(d), m.add(d));
            case 1 -> Check.due(about + "probe(" + d + ")", x.probe(d), m.probe(d));
            case 2 -> Check.due(about + "addBefore(" + d + ", " + j + ")", x.addBefore(d, j), m.addBefore(d, j));
            case 3 -> Check.due(about + "setDeadline(" + i + ", " + d + ")", x.setDeadline(i, d), m.setDeadline(i, d));
            case 4 -> Check.due(about + "link" + ij, x.link(i, j), m.link(i, j));
            case 5 -> Check.due(about + "unlink" + ij, x.unlink(i, j), m.unlink(i, j));
            case 6 -> Check.due(about + "remove(" + i + ")", x.remove(i), m.remove(i));
            case 7 -> Check.due(about + "tasks()", x.tasks(), m.tasks());
            case 8 -> Check.due(about + "deadline(" + i + ")", x.deadline(i), m.deadline(i));
            case 9 -> Check.due(about + "linked" + ij, x.linked(i, j), m.linked(i, j));
            case 10 -> Check.due(about + "span()", x.span(), m.span());
            case 11 -> Check.due(about + "earliest(" + i + ")", x.earliest(i), m.earliest(i));
            case 12 -> Check.due(about + "tightest(" + i + ")", x.tightest(i), m.tightest(i));
            case 13 -> Check.due(about + "couldPrecede" + ij, x.couldPrecede(i, j), m.couldPrecede(i, j));
            case 14 -> Check.due(about + "slotOf(" + i + ")", x.slotOf(i), m.slotOf(i));
            default -> Check.due(about + "shortSlotOf(" + i + ")", x.shortSlotOf(i), m.shortSlotOf(i));
        }
    }

    private static int taskNumber() {
        return below(25) == 0 ? oddNumber() : below(7);
    }

    private static int oddNumber() {
        return ODD_NUMBERS[below(ODD_NUMBERS.length)];
    }

    private static int pick(int[] shares) {
        int all = 0;
        for (int share : shares) {
            all += share;
        }
        int left = below(all);
        int which = 0;
        while (left >= shares[which]) {
            left -= shares[which];
            which++;
        }
        return which;
    }

    private static int below(int bound) {
        seed = seed * 6364136223846793005L + 1442695040888963407L;
        return (int) ((seed >>> 33) % bound);
    }
}
