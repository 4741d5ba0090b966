/** The boundary cases of "What it is", "Terms" and promise 1. */
public final class ObjectBoundariesTest extends Boundaries {
    public static void main(String[] args) {
        what512Calls();
        termsSlotBelowDeadline();
        termsLinkMeansGreaterSlot();
        termsMachinesPerSlot();
        termsNoneLeftIsRefused();
        termsEmptyTimetable();
        termsNumbersBelowCapacity();
        new1NoTasks();
        new1Machines();
        new1Capacity();
        Check.end();
    }

    // "An object is used for at most 512 calls after it has been made": the 512th is promised still.
    private static void what512Calls() {
        TwinPlanner x = new TwinPlanner(1, 2);
        for (int round = 0; round < 73; round++) {
            String about = "What it is: round " + round + ", ";
            Check.due(about + "add(8)", x.add(8), 0);
            Check.due(about + "addBefore(8, 0)", x.addBefore(8, 0), 1);
            Check.due(about + "add(8)", x.add(8), FULL);
            Check.due(about + "link(0, 1)", x.link(0, 1), CYCLE);
            Check.due(about + "slotOf(0)", x.slotOf(0), 1);
            Check.due(about + "remove(0)", x.remove(0), true);
            Check.due(about + "remove(1)", x.remove(1), true);
        }
        Check.due("What it is: the 512th call, add(1)", x.add(1), 0);

        TwinPlanner refusing = planner(1, 1);
        for (int call = 2; call < 512; call++) {
            Check.due("What it is: call " + call + ", add(1)", refusing.add(1), REFUSED);
        }
        Check.due("What it is: the 512th call, add(2)", refusing.add(2), 1);
    }

    // "Every task has a deadline d (1 .. 8): its slot must be less than d."
    private static void termsSlotBelowDeadline() {
        for (int d = 1; d <= 6; d++) {
            TwinPlanner x = new TwinPlanner(1, 7);
            for (int k = 0; k < d; k++) {
                Check.due("Terms: " + d + " tasks below " + d + ", add", x.add(d), k);
            }
            Check.due("Terms: one more below " + d, x.add(d), REFUSED);
            Check.due("Terms: slot " + d + " is the next one's", x.add(d + 1), d);
            Check.due("Terms: the next one's slot", x.slotOf(d), d);
        }
        TwinPlanner all = planner(1, 7, 6, 5, 4, 3, 2, 1);
        for (int id = 0; id < 7; id++) {
            Check.due("Terms: the slot just below the deadline, slotOf(" + id + ")", all.slotOf(id), 6 - id);
        }
    }

    // "A LINK from task i to task j says that the slot of j must be greater than the slot of i."
    private static void termsLinkMeansGreaterSlot() {
        TwinPlanner x = planner(2, 8, 8);
        Check.due("Terms: unlinked, both in slot 0", x.span(), 1);
        linkAll(x, 1, 0);
        Check.due("Terms: the same slot isn't greater", x.slotOf(0), 1);
        Check.due("Terms: the next one is", x.span(), 2);
        Check.due("Terms: slot 1 is no slot below 1", x.setDeadline(0, 1), REFUSED);
        Check.due("Terms: it is one below 2", x.setDeadline(0, 2), OK);
    }

    // "GOOD when no slot is given to more tasks than there are machines"
    private static void termsMachinesPerSlot() {
        for (int machines = 1; machines <= 2; machines++) {
            TwinPlanner x = planner(machines, 8, 8, 8, 8, 8, 8, 8);
            for (int id = 0; id < 7; id++) {
                Check.due("Terms: on " + machines + " machines, slotOf(" + id + ")", x.slotOf(id), id / machines);
                Check.due("Terms: on " + machines + ", shortSlotOf(" + id + ")", x.shortSlotOf(id), id / machines);
            }
        }
        for (int d = 1; d <= 3; d++) {
            TwinPlanner x = new TwinPlanner(2, 7);
            for (int k = 0; k < 2 * d; k++) {
                Check.due("Terms: two to a slot below " + d + ", add", x.add(d), k);
            }
            Check.due("Terms: not three, below " + d, x.add(d), REFUSED);
        }
    }

    // "There is always a good timetable ..: every call that would leave none is refused."
    private static void termsNoneLeftIsRefused() {
        TwinPlanner x = busy();
        for (int round = 0; round < 2; round++) {
            Check.due("Terms: add(2)", x.add(2), REFUSED);
            Check.due("Terms: probe(2)", x.probe(2), REFUSED);
            Check.due("Terms: addBefore(2, 4)", x.addBefore(2, 4), REFUSED);
            Check.due("Terms: setDeadline(4, 2)", x.setDeadline(4, 2), REFUSED);
            Check.due("Terms: link(1, 5)", x.link(1, 5), REFUSED);
        }
        Check.due("Terms: there is one still", x.span(), 3);
    }

    // "(With no tasks the empty timetable is good.)"
    private static void termsEmptyTimetable() {
        Check.due("Terms: all tasks gone, all is as in a new object", State.of(emptied()), State.of(empty()));
        TwinPlanner x = planner(1, 1);
        Check.due("Terms: the last task can go", x.remove(0), true);
        Check.due("Terms: no slot is needed", x.span(), 0);
        Check.due("Terms: and slot 0 is free", x.add(1), 0);
    }

    // "Tasks hold numbers 0 .. capacity - 1."
    private static void termsNumbersBelowCapacity() {
        for (int capacity = 1; capacity <= 7; capacity++) {
            TwinPlanner x = new TwinPlanner(2, capacity);
            Check.due("Terms: the first number is 0", x.add(8), 0);
            for (int k = 1; k < capacity; k++) {
                Check.due("Terms: capacity " + capacity + ", addBefore(8, 0)", x.addBefore(8, 0), k);
            }
            Check.due("Terms: deadline(capacity - 1)", x.deadline(capacity - 1), 8);
            Check.due("Terms: deadline(capacity)", x.deadline(capacity), NONE);
            Check.due("Terms: remove(capacity)", x.remove(capacity), false);
            Check.due("Terms: remove(capacity - 1)", x.remove(capacity - 1), true);
            Check.due("Terms: the number capacity - 1 again", x.add(8), capacity - 1);
        }
    }

    // "No tasks."
    private static void new1NoTasks() {
        TwinPlanner x = empty();
        Check.due("1: tasks()", x.tasks(), 0);
        Check.due("1: span()", x.span(), 0);
        for (int id = 0; id < 7; id++) {
            Check.due("1: deadline(" + id + ")", x.deadline(id), NONE);
            Check.due("1: earliest(" + id + ")", x.earliest(id), NONE);
            Check.due("1: tightest(" + id + ")", x.tightest(id), NONE);
            Check.due("1: slotOf(" + id + ")", x.slotOf(id), NONE);
            Check.due("1: shortSlotOf(" + id + ")", x.shortSlotOf(id), NONE);
            Check.due("1: setDeadline(" + id + ", 8)", x.setDeadline(id, 8), BAD);
            Check.due("1: addBefore(8, " + id + ")", x.addBefore(8, id), BAD);
            Check.due("1: remove(" + id + ")", x.remove(id), false);
            int other = (id + 1) % 7;
            Check.due("1: link(" + id + ", " + other + ")", x.link(id, other), BAD);
            Check.due("1: couldPrecede(" + id + ", " + other + ")", x.couldPrecede(id, other), false);
            Check.due("1: linked(" + id + ", " + other + ")", x.linked(id, other), false);
            Check.due("1: unlink(" + id + ", " + other + ")", x.unlink(id, other), false);
        }
        Check.due("1: tasks() after all that", x.tasks(), 0);
    }

    // "machines: clamped to 1 .. 2."
    private static void new1Machines() {
        for (int machines : new int[] {LOWEST, LOWEST + 2, -2, -1, 0, 1}) {
            TwinPlanner x = planner(machines, 8, 8, 8);
            Check.due("1: three tasks, machines " + machines, x.span(), 3);
            Check.due("1: two below 1, machines " + machines, x.setDeadline(0, 1), OK);
            Check.due("1: two below 1, machines " + machines, x.setDeadline(1, 1), REFUSED);
        }
        for (int machines : new int[] {2, 3, 4, 5, 7, 8, 256, 257, 65537, HIGHEST - 1, HIGHEST}) {
            TwinPlanner x = planner(machines, 8, 8, 8);
            Check.due("1: three tasks, machines " + machines, x.span(), 2);
            Check.due("1: three below 1, machines " + machines, x.setDeadline(0, 1), OK);
            Check.due("1: three below 1, machines " + machines, x.setDeadline(1, 1), OK);
            Check.due("1: three below 1, machines " + machines, x.setDeadline(2, 1), REFUSED);
        }
    }

    // "capacity: the greatest number of tasks, clamped to 1 .. 7."
    private static void new1Capacity() {
        for (int capacity : new int[] {LOWEST, LOWEST + 7, -8, -1, 0, 1}) {
            TwinPlanner x = new TwinPlanner(2, capacity);
            Check.due("1: a first task, capacity " + capacity, x.add(8), 0);
            Check.due("1: a second, capacity " + capacity, x.add(8), FULL);
        }
        for (int capacity : new int[] {7, 8, 9, 15, 31, 32, 256, 257, 65537, HIGHEST - 1, HIGHEST}) {
            TwinPlanner x = new TwinPlanner(2, capacity);
            for (int k = 0; k < 7; k++) {
                Check.due("1: seven tasks, capacity " + capacity, x.add(8), k);
            }
            Check.due("1: an eighth, capacity " + capacity, x.add(8), FULL);
        }
        TwinPlanner mixed = new TwinPlanner(7, 1);
        Check.due("1: machines 7, capacity 1", mixed.add(8), 0);
        Check.due("1: machines 7, capacity 1, a second task", mixed.add(8), FULL);
    }
}
