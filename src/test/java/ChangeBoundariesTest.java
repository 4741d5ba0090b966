import java.util.function.Consumer;

/** The boundary cases of the calls that change the plan, and of probe: promises 2 to 8. */
public final class ChangeBoundariesTest extends Boundaries {
    public static void main(String[] args) {
        add2Bad();
        add2Full();
        add2Refused();
        add2Order();
        add2LeastNumber();
        add2NoLinks();
        add2ChangesNothing();
        probe3AsAdd();
        probe3ChangesNothing();
        addBefore4Bad();
        addBefore4Full();
        addBefore4Refused();
        addBefore4Order();
        addBefore4Number();
        addBefore4ChangesNothing();
        setDeadline5Bad();
        setDeadline5Refused();
        setDeadline5OnlyOkChanges();
        link6Bad();
        link6ThereAlready();
        link6Cycle();
        link6CycleFarBack();
        link6Refused();
        link6OnlyNewLinkChanges();
        unlink7();
        unlink7OnlyThat();
        remove8();
        remove8AllLinks();
        remove8NoWayThrough();
        Check.end();
    }

    // "BAD unless 1 <= d <= 8"
    private static void add2Bad() {
        TwinPlanner x = empty();
        for (int d : NO_DEADLINES) {
            Check.due("2: add(" + d + ")", x.add(d), BAD);
        }
        Check.due("2: add(1)", x.add(1), 0);
        Check.due("2: add(8)", x.add(8), 1);
        Check.due("2: deadline(0)", x.deadline(0), 1);
        Check.due("2: deadline(1)", x.deadline(1), 8);
    }

    // "FULL when capacity tasks are there"
    private static void add2Full() {
        for (int capacity = 1; capacity <= 7; capacity++) {
            TwinPlanner x = new TwinPlanner(1, capacity);
            for (int k = 0; k < capacity; k++) {
                Check.due("2: capacity " + capacity + ", add(8)", x.add(8), k);
            }
            Check.due("2: capacity " + capacity + ", one more", x.add(8), FULL);
            for (int id = 0; id < capacity; id++) {
                x.remove(id);
                Check.due("2: capacity " + capacity + ", without " + id, x.add(8), id);
                Check.due("2: capacity " + capacity + ", full again", x.add(8), FULL);
            }
        }
    }

    // "REFUSED when with this task there would be no good timetable"
    private static void add2Refused() {
        TwinPlanner x = busy();
        Check.due("2: slot 0 has two", x.add(1), REFUSED);
        Check.due("2: slot 1 has two", x.add(2), REFUSED);
        Check.due("2: slot 2 has a place", x.add(3), 3);
        Check.due("2: 4 can go out of the way", x.add(3), 6);

        // 1 can't go out of the way: what follows it must be below 3.
        TwinPlanner chain = planner(1, 8, 8, 3);
        linkAll(chain, 0, 1, 1, 2);
        for (int d = 1; d <= 3; d++) {
            Check.due("2: the chain fills the slots below 3, add(" + d + ")", chain.add(d), REFUSED);
        }
        Check.due("2: slot 3 is free", chain.add(4), 3);
    }

    // "Answers, by the first that applies"
    private static void add2Order() {
        TwinPlanner x = new TwinPlanner(1, 1);
        Check.due("2: add(1)", x.add(1), 0);
        for (int d : NO_DEADLINES) {
            Check.due("2: BAD before FULL, add(" + d + ")", x.add(d), BAD);
        }
        Check.due("2: FULL before REFUSED", x.add(1), FULL);
        TwinPlanner full = busyAndFull();
        Check.due("2: FULL before REFUSED, seven tasks", full.add(1), FULL);
    }

    // "the task is there under the least number no task holds, which is answered"
    private static void add2LeastNumber() {
        for (int gone = 1; gone < 128; gone++) {
            TwinPlanner x = planner(2, 8, 8, 8, 8, 8, 8, 8);
            for (int id = 0; id < 7; id++) {
                if ((gone >> id & 1) != 0) {
                    x.remove(id);
                }
            }
            int least = Integer.numberOfTrailingZeros(gone);
            Check.due("2: without the tasks of " + gone + ", add(4)", x.add(4), least);
            Check.due("2: it is there, tasks()", x.tasks(), 127 & ~gone | 1 << least);
            Check.due("2: it is there, deadline(" + least + ")", x.deadline(least), 4);
        }
    }

    // "Adds a task with deadline d and no links": nor has it those of the task that held its number.
    private static void add2NoLinks() {
        TwinPlanner x = planner(2, 8, 8, 8);
        linkAll(x, 0, 1, 1, 2, 0, 2);
        for (int id = 0; id < 3; id++) {
            x.remove(id);
            Check.due("2: add(8)", x.add(8), id);
            for (int other = 0; other < 3; other++) {
                Check.due("2: linked(" + id + ", " + other + ")", x.linked(id, other), false);
                Check.due("2: linked(" + other + ", " + id + ")", x.linked(other, id), false);
            }
        }
    }

    // "A call that adds no task changes nothing."
    private static void add2ChangesNothing() {
        for (int d : NO_DEADLINES) {
            String call = "2: add(" + d + ")";
            unchanged(call, Boundaries::empty, x -> Check.due(call + " with no tasks", x.add(d), BAD));
            unchanged(call, Boundaries::busy, x -> Check.due(call + " when busy", x.add(d), BAD));
            unchanged(call, Boundaries::busyAndFull, x -> Check.due(call + " when full", x.add(d), BAD));
        }
        for (int k = 1; k <= 8; k++) {
            int d = k;
            String call = "2: add(" + d + ")";
            unchanged(call, Boundaries::busyAndFull, x -> Check.due(call + " when full", x.add(d), FULL));
        }
        unchanged("2: add(1)", Boundaries::busy, x -> Check.due("2: add(1) when busy", x.add(1), REFUSED));
        unchanged("2: add(2)", Boundaries::busy, x -> Check.due("2: add(2) when busy", x.add(2), REFUSED));
    }

    // "What add(d) would answer now"
    private static void probe3AsAdd() {
        for (int d = -1; d <= 10; d++) {
            String about = "3: probe(" + d + ")";
            Check.due(about + " with no tasks", empty().probe(d), empty().add(d));
            Check.due(about + " with all tasks gone", emptied().probe(d), emptied().add(d));
            Check.due(about + " when busy", busy().probe(d), busy().add(d));
            Check.due(about + " when full", busyAndFull().probe(d), busyAndFull().add(d));
        }
        for (int d : NO_DEADLINES) {
            Check.due("3: probe(" + d + ") with no tasks", empty().probe(d), BAD);
            Check.due("3: probe(" + d + ") when full", busyAndFull().probe(d), BAD);
        }
        TwinPlanner x = busy();
        Check.due("3: probe(1)", x.probe(1), REFUSED);
        Check.due("3: probe(2)", x.probe(2), REFUSED);
        Check.due("3: probe(3)", x.probe(3), 3);
        Check.due("3: probe(8)", x.probe(8), 3);
        Check.due("3: probe(1) when full", busyAndFull().probe(1), FULL);
        Check.due("3: probe(8) when full", busyAndFull().probe(8), FULL);
        Check.due("3: probe(1) with no tasks", empty().probe(1), 0);
    }

    // "changing nothing"
    private static void probe3ChangesNothing() {
        Consumer<TwinPlanner> probes = x -> {
            for (int d = 0; d <= 9; d++) {
                x.probe(d);
            }
        };
        unchanged("3: probe with no tasks", Boundaries::empty, probes);
        unchanged("3: probe when busy", Boundaries::busy, probes);
        unchanged("3: probe when full", Boundaries::busyAndFull, probes);
    }

    // "BAD unless 1 <= d <= 8 and j is a task's number"
    private static void addBefore4Bad() {
        TwinPlanner x = busy();
        for (int d : NO_DEADLINES) {
            Check.due("4: addBefore(" + d + ", 4)", x.addBefore(d, 4), BAD);
        }
        for (int j : NEVER_TASKS) {
            Check.due("4: addBefore(8, " + j + ")", x.addBefore(8, j), BAD);
        }
        Check.due("4: the number that the task itself would get", x.addBefore(8, 3), BAD);
        Check.due("4: another free number", x.addBefore(8, 6), BAD);
        Check.due("4: both wrong", x.addBefore(0, 3), BAD);
        Check.due("4: addBefore(8, 4)", x.addBefore(8, 4), 3);
        Check.due("4: now 3 is a task's number", x.addBefore(8, 3), 6);
        TwinPlanner pair = planner(2, 8, 2);
        Check.due("4: the least deadline", pair.addBefore(1, 1), 2);
    }

    // "FULL"
    private static void addBefore4Full() {
        for (int capacity = 1; capacity <= 7; capacity++) {
            TwinPlanner x = new TwinPlanner(2, capacity);
            x.add(8);
            for (int k = 1; k < capacity; k++) {
                Check.due("4: capacity " + capacity + ", addBefore(8, 0)", x.addBefore(8, 0), k);
            }
            Check.due("4: capacity " + capacity + ", one more", x.addBefore(8, 0), FULL);
        }
    }

    // "REFUSED": for the new task's deadline, or for those that come after it.
    private static void addBefore4Refused() {
        TwinPlanner x = busy();
        Check.due("4: its own deadline is too small", x.addBefore(2, 4), REFUSED);
        Check.due("4: 1 has no place left before it", x.addBefore(8, 1), REFUSED);
        Check.due("4: nor has 0", x.addBefore(8, 0), REFUSED);
        Check.due("4: nor has 5, which is below 1", x.addBefore(8, 5), REFUSED);
        Check.due("4: 4 can wait until slot 3", x.addBefore(8, 4), 3);
        Check.due("4: and until slot 4, its last", x.addBefore(3, 3), 6);
        Check.due("4: slotOf(4)", x.slotOf(4), 4);

        // There is a place in slot 0 beside task 0, but no slot before it.
        TwinPlanner first = planner(2, 1);
        Check.due("4: nothing comes before slot 0", first.addBefore(8, 0), REFUSED);
        Check.due("4: setDeadline(0, 2)", first.setDeadline(0, 2), OK);
        Check.due("4: now there is a slot", first.addBefore(1, 0), 1);

        TwinPlanner chain = planner(1, 8, 3);
        linkAll(chain, 0, 1);
        Check.due("4: before the chain", chain.addBefore(8, 0), 2);
        Check.due("4: 1 is at its last slot", chain.addBefore(8, 2), REFUSED);
    }

    // "Answers, by the first that applies"
    private static void addBefore4Order() {
        TwinPlanner x = new TwinPlanner(1, 1);
        Check.due("4: BAD on an empty planner", x.addBefore(8, 0), BAD);
        Check.due("4: add(1)", x.add(1), 0);
        for (int d : NO_DEADLINES) {
            Check.due("4: BAD before FULL, addBefore(" + d + ", 0)", x.addBefore(d, 0), BAD);
        }
        for (int j : NEVER_TASKS) {
            Check.due("4: BAD before FULL, addBefore(1, " + j + ")", x.addBefore(1, j), BAD);
        }
        Check.due("4: BAD before FULL, addBefore(1, 1)", x.addBefore(1, 1), BAD);
        Check.due("4: FULL before REFUSED", x.addBefore(1, 0), FULL);
    }

    // "the number, as in add"
    private static void addBefore4Number() {
        for (int gone = 1; gone < 127; gone++) {
            TwinPlanner x = planner(1, 8, 8, 8, 8, 8, 8, 8);
            for (int id = 0; id < 7; id++) {
                if ((gone >> id & 1) != 0) {
                    x.remove(id);
                }
            }
            int least = Integer.numberOfTrailingZeros(gone);
            int j = Integer.numberOfTrailingZeros(~gone);
            Check.due("4: without the tasks of " + gone + ", addBefore(6, " + j + ")", x.addBefore(6, j), least);
            Check.due("4: it is there, tasks()", x.tasks(), 127 & ~gone | 1 << least);
            Check.due("4: its deadline", x.deadline(least), 6);
            for (int pair = 0; pair < 49; pair++) {
                boolean want = pair == least * 7 + j;
                Check.due("4: linked(" + pair / 7 + ", " + pair % 7 + ")", x.linked(pair / 7, pair % 7), want);
            }
        }
    }

    // As in add: "A call that adds no task changes nothing."
    private static void addBefore4ChangesNothing() {
        for (int d : NO_DEADLINES) {
            String call = "4: addBefore(" + d + ", 4)";
            unchanged(call, Boundaries::busy, x -> Check.due(call + " when busy", x.addBefore(d, 4), BAD));
        }
        for (int j : NEVER_TASKS) {
            String call = "4: addBefore(7, " + j + ")";
            unchanged(call, Boundaries::busy, x -> Check.due(call + " when busy", x.addBefore(7, j), BAD));
            unchanged(call, Boundaries::busyAndFull, x -> Check.due(call + " when full", x.addBefore(7, j), BAD));
        }
        for (int k = 0; k < 7; k++) {
            int j = k;
            String call = "4: addBefore(7, " + j + ")";
            unchanged(call, Boundaries::busyAndFull, x -> Check.due(call + " when full", x.addBefore(7, j), FULL));
        }
        unchanged("4: addBefore(7, 3)", Boundaries::busy, x -> Check.due("4: no task 3", x.addBefore(7, 3), BAD));
        for (int j : new int[] {0, 1, 2, 5}) {
            String call = "4: addBefore(7, " + j + ")";
            unchanged(call, Boundaries::busy, x -> Check.due(call + " when busy", x.addBefore(7, j), REFUSED));
        }
        unchanged("4: addBefore(2, 4)", Boundaries::busy, x -> Check.due("4: below 2", x.addBefore(2, 4), REFUSED));
    }

    // "BAD when no task holds the number id or unless 1 <= d <= 8"
    private static void setDeadline5Bad() {
        TwinPlanner x = busy();
        TwinPlanner full = busyAndFull();
        for (int id : NEVER_TASKS) {
            Check.due("5: setDeadline(" + id + ", 8)", full.setDeadline(id, 8), BAD);
        }
        Check.due("5: a free number", x.setDeadline(6, 8), BAD);
        Check.due("5: a number that is free again", x.setDeadline(3, 8), BAD);
        for (int d : NO_DEADLINES) {
            Check.due("5: setDeadline(4, " + d + ")", x.setDeadline(4, d), BAD);
            Check.due("5: setDeadline(3, " + d + ")", x.setDeadline(3, d), BAD);
        }
        Check.due("5: BAD where another would be REFUSED", x.setDeadline(3, 1), BAD);
        Check.due("5: the greatest deadline", x.setDeadline(4, 8), OK);
        Check.due("5: deadline(4)", x.deadline(4), 8);
        Check.due("5: the least deadline", x.setDeadline(0, 1), OK);
        Check.due("5: deadline(0)", x.deadline(0), 1);
    }

    // "REFUSED when with the new deadline there would be no good timetable; otherwise OK"
    private static void setDeadline5Refused() {
        TwinPlanner x = busy();
        Check.due("5: 4 comes after slot 1", x.setDeadline(4, 2), REFUSED);
        Check.due("5: it can be in slot 2", x.setDeadline(4, 3), OK);
        Check.due("5: 1 comes after slot 0", x.setDeadline(1, 1), REFUSED);
        Check.due("5: the deadline that it has", x.setDeadline(1, 2), OK);
        Check.due("5: a greater one", x.setDeadline(1, 3), OK);
        Check.due("5: the smaller one again", x.setDeadline(1, 2), OK);

        TwinPlanner taken = planner(1, 1, 2, 8);
        Check.due("5: slot 0 is another's", taken.setDeadline(2, 1), REFUSED);
        Check.due("5: slot 1 is another's", taken.setDeadline(2, 2), REFUSED);
        Check.due("5: slot 2 is free", taken.setDeadline(2, 3), OK);
    }

    // "Only OK changes anything."
    private static void setDeadline5OnlyOkChanges() {
        for (int id : NEVER_TASKS) {
            String call = "5: setDeadline(" + id + ", 4)";
            unchanged(call, Boundaries::busyAndFull, x -> Check.due(call, x.setDeadline(id, 4), BAD));
        }
        for (int d : NO_DEADLINES) {
            String call = "5: setDeadline(4, " + d + ")";
            unchanged(call, Boundaries::busy, x -> Check.due(call, x.setDeadline(4, d), BAD));
        }
        unchanged("5: no task 3", Boundaries::busy, x -> Check.due("5: no task 3", x.setDeadline(3, 1), BAD));
        for (int id : new int[] {1, 2, 4}) {
            String call = "5: setDeadline(" + id + ", 1)";
            unchanged(call, Boundaries::busy, x -> Check.due(call, x.setDeadline(id, 1), REFUSED));
        }
        unchanged("5: below 2", Boundaries::busy, x -> Check.due("5: below 2", x.setDeadline(4, 2), REFUSED));
    }

    // "BAD when i or j is no task's number, or i = j"
    private static void link6Bad() {
        TwinPlanner full = busyAndFull();
        for (int bad : NEVER_TASKS) {
            Check.due("6: link(" + bad + ", 4)", full.link(bad, 4), BAD);
            Check.due("6: link(0, " + bad + ")", full.link(0, bad), BAD);
            Check.due("6: link(" + bad + ", itself)", full.link(bad, bad), BAD);
        }
        TwinPlanner x = busy();
        Check.due("6: from a free number", x.link(3, 4), BAD);
        Check.due("6: to a free number", x.link(0, 3), BAD);
        Check.due("6: between free numbers", x.link(3, 6), BAD);
        for (int id = 0; id < 7; id++) {
            Check.due("6: link(" + id + ", itself)", x.link(id, id), BAD);
        }
    }

    // "OK when the link is there already (nothing changes)"
    private static void link6ThereAlready() {
        TwinPlanner x = busy();
        Check.due("6: link(0, 1)", x.link(0, 1), OK);
        Check.due("6: one unlink is enough", x.unlink(0, 1), true);
        Check.due("6: linked(0, 1)", x.linked(0, 1), false);
        unchanged("6: a link that is there already", Boundaries::busy, y -> {
            Check.due("6: link(0, 1)", y.link(0, 1), OK);
            Check.due("6: link(0, 2)", y.link(0, 2), OK);
            Check.due("6: link(2, 4)", y.link(2, 4), OK);
        });
    }

    // "CYCLE when task i can be reached from task j along links": by one link, by many, before REFUSED.
    private static void link6Cycle() {
        TwinPlanner x = busy();
        Check.due("6: back along one link", x.link(1, 0), CYCLE);
        Check.due("6: back along two", x.link(4, 0), CYCLE);
        Check.due("6: CYCLE before REFUSED, 2 being held in slot 1", x.link(4, 2), CYCLE);
        Check.due("6: no way from 1 to 4", x.link(4, 1), REFUSED);

        TwinPlanner chain = planner(1, 8, 8, 8);
        linkAll(chain, 2, 0, 0, 1);
        Check.due("6: forth along the chain", chain.link(2, 1), OK);
        Check.due("6: a link of it goes", chain.unlink(2, 0), true);
        Check.due("6: back along the link past it", chain.link(1, 2), CYCLE);
        Check.due("6: no way from 2 to 0", chain.link(0, 2), OK);
    }

    // The same, along chains of all seven tasks in many orders, up and down among them.
    private static void link6CycleFarBack() {
        for (int order = 0; order < 42; order++) {
            int start = order % 7;
            int step = 1 + order / 7;
            TwinPlanner x = planner(1, 8, 8, 8, 8, 8, 8, 8);
            for (int k = 1; k < 7; k++) {
                linkAll(x, (start + step * (k - 1)) % 7, (start + step * k) % 7);
            }
            for (int back = 1; back < 7; back++) {
                for (int k = back; k < 7; k++) {
                    int from = (start + step * k) % 7;
                    int to = (start + step * (k - back)) % 7;
                    String about = "6: chain from " + start + " by " + step;
                    Check.due(about + ", link(" + from + ", " + to + ")", x.link(from, to), CYCLE);
                }
            }
        }
    }

    // "REFUSED when with the link there would be no good timetable; otherwise the link is there, and the answer is OK"
    private static void link6Refused() {
        TwinPlanner x = busy();
        Check.due("6: 5 is in slot 0", x.link(1, 5), REFUSED);
        Check.due("6: 1 and 2 are in slot 1", x.link(1, 2), REFUSED);
        Check.due("6: linked(1, 5)", x.linked(1, 5), false);
        Check.due("6: 4 fits after 1", x.link(1, 4), OK);
        Check.due("6: linked(1, 4)", x.linked(1, 4), true);
        Check.due("6: 1 fits after 5", x.link(5, 1), OK);
        Check.due("6: linked(5, 1)", x.linked(5, 1), true);

        // Three in a chain need the slots 0, 1 and 2, and the last has to be below 2, then below 3.
        TwinPlanner chain = planner(2, 8, 8, 2);
        linkAll(chain, 0, 1);
        Check.due("6: the chain's end would be in slot 2", chain.link(1, 2), REFUSED);
        Check.due("6: setDeadline(2, 3)", chain.setDeadline(2, 3), OK);
        Check.due("6: which is just below 3", chain.link(1, 2), OK);
    }

    // Every answer but the last leaves the links as they are.
    private static void link6OnlyNewLinkChanges() {
        for (int bad : NEVER_TASKS) {
            String from = "6: link(" + bad + ", 4)";
            String to = "6: link(5, " + bad + ")";
            unchanged(from, Boundaries::busyAndFull, x -> Check.due(from, x.link(bad, 4), BAD));
            unchanged(to, Boundaries::busyAndFull, x -> Check.due(to, x.link(5, bad), BAD));
        }
        int[][] calls = {
            {3, 4, BAD}, {5, 3, BAD}, {3, 6, BAD}, {4, 4, BAD},
            {1, 0, CYCLE}, {2, 0, CYCLE}, {4, 2, CYCLE}, {4, 0, CYCLE},
            {1, 5, REFUSED}, {0, 5, REFUSED}, {4, 5, REFUSED}, {1, 2, REFUSED}, {2, 1, REFUSED}, {4, 1, REFUSED}};
        for (int[] call : calls) {
            String about = "6: link(" + call[0] + ", " + call[1] + ")";
            unchanged(about, Boundaries::busy, x -> Check.due(about, x.link(call[0], call[1]), call[2]));
        }
    }

    // "false, changing nothing, when there is no such link"
    private static void unlink7() {
        unchanged("7: unlink of no tasks", Boundaries::busyAndFull, x -> {
            for (int bad : NEVER_TASKS) {
                Check.due("7: unlink(" + bad + ", 1)", x.unlink(bad, 1), false);
                Check.due("7: unlink(" + bad + ", 4)", x.unlink(bad, 4), false);
                Check.due("7: unlink(0, " + bad + ")", x.unlink(0, bad), false);
                Check.due("7: unlink(2, " + bad + ")", x.unlink(2, bad), false);
                Check.due("7: unlink(" + bad + ", itself)", x.unlink(bad, bad), false);
            }
        });
        unchanged("7: unlink where there is no link", Boundaries::busy, x -> {
            Check.due("7: the other way", x.unlink(1, 0), false);
            Check.due("7: along two links", x.unlink(0, 4), false);
            Check.due("7: a task and itself", x.unlink(0, 0), false);
            Check.due("7: tasks without a link", x.unlink(0, 5), false);
            Check.due("7: a free number", x.unlink(0, 3), false);
            Check.due("7: a free number", x.unlink(3, 1), false);
        });
        TwinPlanner x = busy();
        Check.due("7: unlink(0, 1)", x.unlink(0, 1), true);
        Check.due("7: the others stand", x.linked(0, 2) && x.linked(2, 4), true);
        unchanged("7: the same unlink again", () -> {
            TwinPlanner y = busy();
            y.unlink(0, 1);
            return y;
        }, y -> Check.due("7: unlink(0, 1) again", y.unlink(0, 1), false));
        Check.due("7: it comes back", x.link(0, 1), OK);
        Check.due("7: all is as before", State.of(x), State.of(busy()));
    }

    // "Takes the link from i to j away and answers true": that link and no other.
    private static void unlink7OnlyThat() {
        for (int gone = 0; gone < 49; gone++) {
            TwinPlanner x = planner(1, 8, 8, 8, 8, 8, 8, 8);
            linkAllForth(x);
            boolean there = gone / 7 < gone % 7;
            Check.due("7: unlink(" + gone / 7 + ", " + gone % 7 + ")", x.unlink(gone / 7, gone % 7), there);
            for (int pair = 0; pair < 49; pair++) {
                boolean want = pair / 7 < pair % 7 && pair != gone;
                Check.due("7: linked(" + pair / 7 + ", " + pair % 7 + ")", x.linked(pair / 7, pair % 7), want);
            }
        }
    }

    // "false, changing nothing, when no task holds the number"
    private static void remove8() {
        unchanged("8: remove of no task", Boundaries::busyAndFull, x -> {
            for (int bad : NEVER_TASKS) {
                Check.due("8: remove(" + bad + ")", x.remove(bad), false);
            }
        });
        unchanged("8: remove of a free number", Boundaries::busy, x -> {
            Check.due("8: a number that was never held", x.remove(6), false);
            Check.due("8: a number that is free again", x.remove(3), false);
        });
        unchanged("8: remove with no tasks", Boundaries::empty, x -> {
            for (int id = -1; id <= 7; id++) {
                Check.due("8: remove(" + id + ") with no tasks", x.remove(id), false);
            }
        });
        TwinPlanner x = busyAndFull();
        for (int id = 6; id >= 0; id--) {
            Check.due("8: remove(" + id + ")", x.remove(id), true);
            Check.due("8: remove(" + id + ") again", x.remove(id), false);
            Check.due("8: tasks()", x.tasks(), (1 << id) - 1);
        }
    }

    // "Takes task id away with all its links": those to it and those from it, and no others.
    private static void remove8AllLinks() {
        for (int id = 0; id < 7; id++) {
            TwinPlanner x = planner(1, 8, 8, 8, 8, 8, 8, 8);
            linkAllForth(x);
            Check.due("8: remove(" + id + ")", x.remove(id), true);
            Check.due("8: span() without it", x.span(), 6);
            Check.due("8: its number again", x.add(8), id);
            for (int pair = 0; pair < 49; pair++) {
                boolean want = pair / 7 < pair % 7 && pair / 7 != id && pair % 7 != id;
                Check.due("8: linked(" + pair / 7 + ", " + pair % 7 + ")", x.linked(pair / 7, pair % 7), want);
            }
        }
    }

    // The same: the links go, and none comes in their place.
    private static void remove8NoWayThrough() {
        TwinPlanner x = planner(2, 8, 8, 8);
        linkAll(x, 0, 1, 1, 2);
        Check.due("8: back along the chain", x.link(2, 0), CYCLE);
        Check.due("8: remove(1)", x.remove(1), true);
        Check.due("8: linked(0, 2)", x.linked(0, 2), false);
        Check.due("8: span()", x.span(), 1);
        Check.due("8: earliest(2)", x.earliest(2), 0);
        Check.due("8: no way leads from 0 to 2", x.link(2, 0), OK);
    }
}
