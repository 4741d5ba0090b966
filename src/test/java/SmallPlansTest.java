/**
 * Every plan of at most three tasks, with every set of links: each call on it, with every number that makes a
 * difference, is held against the Model. Where ModelTest goes far, this one leaves nothing out.
 */
public final class SmallPlansTest {
    private static final int TASKS = 3;
    // Three tasks never need a fourth slot, so that a plan with 4 to 7 is like one with 8.
    private static final int[] DEADLINES = {1, 2, 3, 8};

    // The plan that is looked at: the tasks and the links as bits, the deadlines as digits, each a place in DEADLINES.
    private static int machines;
    private static int tasks;
    private static int deadlines;
    private static int links;

    public static void main(String[] args) {
        int deadlineSets = power(DEADLINES.length, TASKS);
        int linkSets = 1 << TASKS * TASKS;
        for (machines = 1; machines <= 2; machines++) {
            for (tasks = 0; tasks < 1 << TASKS; tasks++) {
                for (links = 0; links < linkSets; links++) {
                    for (deadlines = 0; deadlines < deadlineSets && Check.wrong() < 20; deadlines++) {
                        lookAtPlan();
                    }
                }
            }
        }
        Check.end();
    }

    private static int power(int base, int exponent) {
        int product = 1;
        for (int k = 0; k < exponent; k++) {
            product *= base;
        }
        return product;
    }

    private static int deadlineOf(int id) {
        return DEADLINES[deadlines / power(DEADLINES.length, id) % DEADLINES.length];
    }

    private static boolean isTask(int id) {
        return (tasks >> id & 1) != 0;
    }

    private static void lookAtPlan() {
        if (!isNew()) {
            return;
        }
        Model model = new Model(machines, TASKS);
        TwinPlanner planner = new TwinPlanner(machines, TASKS);
        if (setUp(planner, model)) {
            askAll(planner, model);
            changeAll();
        }
    }

    // What a number that no task holds would have for a deadline and for links only gives the same plan again.
    private static boolean isNew() {
        for (int id = 0; id < TASKS; id++) {
            if (!isTask(id) && deadlineOf(id) != DEADLINES[0]) {
                return false;
            }
        }
        for (int pair = 0; pair < TASKS * TASKS; pair++) {
            int i = pair / TASKS;
            int j = pair % TASKS;
            if ((links >> pair & 1) != 0 && (i == j || !isTask(i) || !isTask(j))) {
                return false;
            }
        }
        return true;
    }

    /** Makes the plan, or answers false where a link or a deadline of it can't be: then there is no such plan. */
    private static boolean setUp(TwinPlanner x, Model m) {
        for (int id = 0; id < TASKS; id++) {
            due("add(8)", x.add(8), m.add(8));
        }
        for (int id = 0; id < TASKS; id++) {
            if (!isTask(id)) {
                due("remove(" + id + ")", x.remove(id), m.remove(id));
            }
        }
        boolean done = true;
        for (int pair = 0; pair < TASKS * TASKS; pair++) {
            if ((links >> pair & 1) != 0) {
                int want = m.link(pair / TASKS, pair % TASKS);
                due("setting up, link", x.link(pair / TASKS, pair % TASKS), want);
                done &= want == TwinPlanner.OK;
            }
        }
        for (int id = 0; id < TASKS; id++) {
            if (isTask(id)) {
                int want = m.setDeadline(id, deadlineOf(id));
                due("setting up, setDeadline", x.setDeadline(id, deadlineOf(id)), want);
                done &= want == TwinPlanner.OK;
            }
        }
        return done;
    }

    // Tens of millions of answers are looked at: the plan's name is put together only for a wrong one.
    private static void due(String call, long got, long want) {
        Check.due(got == want ? call : plan() + call, got, want);
    }

    private static void due(String call, boolean got, boolean want) {
        Check.due(got == want ? call : plan() + call, got, want);
    }

    private static String plan() {
        String numbers = "machines " + machines + ", tasks " + tasks + ", links " + links + ", deadlines";
        for (int id = 0; id < TASKS; id++) {
            numbers += " " + deadlineOf(id);
        }
        return numbers + ": ";
    }

    private static void askAll(TwinPlanner x, Model m) {
        due("tasks()", x.tasks(), m.tasks());
        due("span()", x.span(), m.span());
        for (int d = 0; d <= 9; d++) {
            due("probe(" + d + ")", x.probe(d), m.probe(d));
        }
        for (int id = -1; id <= TASKS; id++) {
            due("deadline(" + id + ")", x.deadline(id), m.deadline(id));
            due("earliest(" + id + ")", x.earliest(id), m.earliest(id));
            due("tightest(" + id + ")", x.tightest(id), m.tightest(id));
            due("slotOf(" + id + ")", x.slotOf(id), m.slotOf(id));
            due("shortSlotOf(" + id + ")", x.shortSlotOf(id), m.shortSlotOf(id));
            for (int j = -1; j <= TASKS; j++) {
                String ij = "(" + id + ", " + j + ")";
                due("linked" + ij, x.linked(id, j), m.linked(id, j));
                due("couldPrecede" + ij, x.couldPrecede(id, j), m.couldPrecede(id, j));
            }
        }
    }

    private static void changeAll() {
        for (int d = 0; d <= 9; d++) {
            change(0, d, 0);
            for (int id = -1; id <= TASKS; id++) {
                change(1, d, id);
                change(2, id, d);
            }
        }
        for (int i = -1; i <= TASKS; i++) {
            change(5, i, 0);
            for (int j = -1; j <= TASKS; j++) {
                change(3, i, j);
                change(4, i, j);
            }
        }
    }

    /** Makes the plan anew, changes it by one call, and looks at what it is then. */
    private static void change(int which, int a, int b) {
        TwinPlanner x = new TwinPlanner(machines, TASKS);
        Model m = new Model(machines, TASKS);
        setUp(x, m);
        String ab = "(" + a + ", " + b + ")";
        switch (which) {
            case 0 -> due("add" + ab, x.add(a), m.add(a));
            case 1 -> due("addBefore" + ab, x.addBefore(a, b), m.addBefore(a, b));
            case 2 -> due("setDeadline" + ab, x.setDeadline(a, b), m.setDeadline(a, b));
            case 3 -> due("link" + ab, x.link(a, b), m.link(a, b));
            case 4 -> due("unlink" + ab, x.unlink(a, b), m.unlink(a, b));
            default -> due("remove" + ab, x.remove(a), m.remove(a));
        }
        askAll(x, m);
    }
}
