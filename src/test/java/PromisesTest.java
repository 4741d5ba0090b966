/** The promises of the document one by one: ordinary inputs, the edges it names, and wrong inputs. */
public final class PromisesTest {
    private static final int LOWEST = Integer.MIN_VALUE;
    private static final int HIGHEST = Integer.MAX_VALUE;
    private static final int[] NO_DEADLINES = {LOWEST, -8, -1, 0, 9, 10, 32, 33, HIGHEST};
    // Held against a planner whose tasks are 0, 1 and 2; 32, 33, 34 and 64 would pass for tasks where a shift wraps.
    private static final int[] NO_TASKS = {LOWEST, -32, -31, -1, 3, 6, 7, 8, 31, 32, 33, 34, 64, HIGHEST};

    public static void main(String[] args) {
        promise1NewObject();
        promise2Add();
        promise2AddRefused();
        promise3Probe();
        promise4AddBefore();
        promise5SetDeadline();
        promise6Link();
        promise6LinkCycle();
        promise6LinkRefused();
        promise7Unlink();
        promise8Remove();
        promise9Tasks();
        promise10Deadline();
        promise11Linked();
        promise12Span();
        promise13Earliest();
        promise14Tightest();
        promise15CouldPrecede();
        promise16SlotOf();
        promise17ShortSlotOf();
        Check.end();
    }

    private static TwinPlanner planner(int machines, int... deadlines) {
        TwinPlanner x = new TwinPlanner(machines, 7);
        for (int k = 0; k < deadlines.length; k++) {
            Check.due("setting up, add(" + deadlines[k] + ")", x.add(deadlines[k]), k);
        }
        return x;
    }

    private static void linkAll(TwinPlanner x, int... pairs) {
        for (int k = 0; k < pairs.length; k += 2) {
            Check.due("setting up, link(" + pairs[k] + ", " + pairs[k + 1] + ")", x.link(pairs[k], pairs[k + 1]), 0);
        }
    }

    private static void slotsDue(String about, TwinPlanner x, int... slots) {
        for (int k = 0; k < slots.length; k++) {
            Check.due(about + ": slotOf(" + k + ")", x.slotOf(k), slots[k]);
        }
    }

    private static void shortSlotsDue(String about, TwinPlanner x, int... slots) {
        for (int k = 0; k < slots.length; k++) {
            Check.due(about + ": shortSlotOf(" + k + ")", x.shortSlotOf(k), slots[k]);
        }
    }

    private static void promise1NewObject() {
        TwinPlanner fresh = new TwinPlanner(2, 7);
        Check.due("1: tasks() of a new object", fresh.tasks(), 0);
        Check.due("1: span() of a new object", fresh.span(), 0);
        for (int id = 0; id < 7; id++) {
            Check.due("1: deadline(" + id + ") of a new object", fresh.deadline(id), -1);
        }
        for (int machines : new int[] {LOWEST, -1, 0, 1}) {
            TwinPlanner x = planner(machines, 1);
            Check.due("1: second add(1), machines " + machines, x.add(1), -3);
        }
        for (int machines : new int[] {2, 3, 4, 100, HIGHEST}) {
            TwinPlanner x = planner(machines, 1, 1);
            Check.due("1: third add(1), machines " + machines, x.add(1), -3);
        }
        for (int capacity : new int[] {LOWEST, -7, 0, 1, 2, 3, 4, 5, 6, 7, 8, 9, 32, HIGHEST}) {
            int most = capacity < 1 ? 1 : capacity > 7 ? 7 : capacity;
            TwinPlanner x = new TwinPlanner(1, capacity);
            for (int k = 0; k < most; k++) {
                Check.due("1: add, capacity " + capacity, x.add(8), k);
            }
            Check.due("1: add past capacity " + capacity, x.add(8), -2);
            Check.due("1: tasks, capacity " + capacity, x.tasks(), (1 << most) - 1);
        }
        TwinPlanner one = planner(2, 8);
        TwinPlanner other = new TwinPlanner(2, 7);
        Check.due("1: a second object has no tasks", other.tasks(), 0);
        Check.due("1: the first object keeps its own", one.tasks(), 1);
    }

    private static void promise2Add() {
        for (int d = 1; d <= 8; d++) {
            TwinPlanner x = new TwinPlanner(1, 7);
            Check.due("2: add(" + d + ")", x.add(d), 0);
            Check.due("2: deadline after add(" + d + ")", x.deadline(0), d);
        }
        TwinPlanner full = new TwinPlanner(1, 1);
        for (int d : NO_DEADLINES) {
            Check.due("2: add(" + d + ") when empty", full.add(d), -1);
        }
        Check.due("2: tasks after bad adds", full.tasks(), 0);
        Check.due("2: add(1)", full.add(1), 0);
        for (int d : NO_DEADLINES) {
            Check.due("2: BAD comes before FULL, add(" + d + ")", full.add(d), -1);
        }
        Check.due("2: FULL comes before REFUSED", full.add(1), -2);
        Check.due("2: FULL", full.add(8), -2);
        Check.due("2: a full add keeps the deadline", full.deadline(0), 1);

        TwinPlanner x = planner(2, 8, 8, 8, 8);
        linkAll(x, 0, 1, 1, 2, 3, 1);
        x.remove(1);
        x.remove(3);
        Check.due("2: the least free number", x.add(5), 1);
        Check.due("2: then the next", x.add(6), 3);
        Check.due("2: then past the others", x.add(7), 4);
        Check.due("2: deadline(1)", x.deadline(1), 5);
        Check.due("2: deadline(3)", x.deadline(3), 6);
        for (int i = 0; i < 5; i++) {
            for (int j = 0; j < 5; j++) {
                Check.due("2: a new task has no links, linked(" + i + ", " + j + ")", x.linked(i, j), false);
            }
        }
        Check.due("2: a new task waits for none", x.earliest(1), 0);
    }

    private static void promise2AddRefused() {
        TwinPlanner x = planner(1, 2);
        Check.due("2: add(2)", x.add(2), 1);
        Check.due("2: a third below 2 on one machine", x.add(2), -3);
        Check.due("2: nor below 1", x.add(1), -3);
        Check.due("2: a refused add adds nothing", x.tasks(), 3);
        Check.due("2: the refused number is free", x.deadline(2), -1);
        Check.due("2: add(3) fits", x.add(3), 2);

        TwinPlanner pair = planner(2, 3, 3, 3, 3, 3);
        Check.due("2: six below 3 on two machines", pair.add(3), 5);
        Check.due("2: not seven", pair.add(3), -3);
        Check.due("2: seven with one later", pair.add(4), 6);

        // 1 and 2 must follow 0 in slot 1, so slot 0 has one place left and slot 1 none.
        TwinPlanner fork = planner(2, 8, 2, 2);
        linkAll(fork, 0, 1, 0, 2);
        Check.due("2: beside the fork's root", fork.add(1), 3);
        Check.due("2: no place below 2", fork.add(2), -3);
        Check.due("2: a place below 3", fork.add(3), 4);
    }

    private static void promise3Probe() {
        TwinPlanner x = new TwinPlanner(1, 2);
        for (int d : NO_DEADLINES) {
            Check.due("3: probe(" + d + ")", x.probe(d), -1);
        }
        Check.due("3: probe(1)", x.probe(1), 0);
        Check.due("3: probe(1) again", x.probe(1), 0);
        Check.due("3: nothing is added", x.tasks(), 0);
        Check.due("3: no span comes of it", x.span(), 0);
        x.add(1);
        Check.due("3: probe(1) is refused", x.probe(1), -3);
        Check.due("3: probe(2) fits", x.probe(2), 1);
        Check.due("3: still one task", x.tasks(), 1);
        Check.due("3: deadline(0) stays", x.deadline(0), 1);
        Check.due("3: deadline(1) is none", x.deadline(1), -1);
        x.add(8);
        Check.due("3: FULL comes before REFUSED", x.probe(1), -2);
        Check.due("3: BAD comes before FULL", x.probe(0), -1);
        Check.due("3: BAD comes before FULL", x.probe(9), -1);
        x.remove(0);
        Check.due("3: the least free number", x.probe(1), 0);
        Check.due("3: and add answers the same", x.add(1), 0);
    }

    private static void promise4AddBefore() {
        TwinPlanner x = planner(2, 8, 8, 8);
        for (int j : NO_TASKS) {
            Check.due("4: addBefore(8, " + j + ")", x.addBefore(8, j), -1);
        }
        for (int d : NO_DEADLINES) {
            Check.due("4: addBefore(" + d + ", 0)", x.addBefore(d, 0), -1);
        }
        Check.due("4: bad calls add nothing", x.tasks(), 7);
        x.remove(1);
        Check.due("4: the least free number", x.addBefore(8, 2), 1);
        Check.due("4: it comes before 2", x.linked(1, 2), true);
        Check.due("4: not after it", x.linked(2, 1), false);
        Check.due("4: nor before another", x.linked(1, 0), false);
        Check.due("4: its deadline", x.deadline(1), 8);
        Check.due("4: 2 waits for it", x.earliest(2), 1);
        Check.due("4: another before 2", x.addBefore(4, 2), 3);
        Check.due("4: the first link stays", x.linked(1, 2), true);

        TwinPlanner tight = new TwinPlanner(1, 3);
        Check.due("4: add(2)", tight.add(2), 0);
        Check.due("4: addBefore(8, 0)", tight.addBefore(8, 0), 1);
        Check.due("4: no slot before 1 is left", tight.addBefore(8, 1), -3);
        Check.due("4: a refused one adds nothing", tight.tasks(), 3);
        Check.due("4: nor a link to later holders of its number", tight.add(8), 2);
        Check.due("4: linked(2, 1)", tight.linked(2, 1), false);
        Check.due("4: FULL comes before REFUSED", tight.addBefore(8, 1), -2);
        Check.due("4: BAD comes before FULL, d", tight.addBefore(9, 1), -1);
        Check.due("4: BAD comes before FULL, j", tight.addBefore(8, 3), -1);

        TwinPlanner first = planner(2, 1);
        Check.due("4: nothing comes before slot 0", first.addBefore(1, 0), -3);
        Check.due("4: though there is a place", first.add(1), 1);
    }

    private static void promise5SetDeadline() {
        TwinPlanner x = planner(1, 8, 8, 8);
        for (int id : NO_TASKS) {
            Check.due("5: setDeadline(" + id + ", 8)", x.setDeadline(id, 8), -1);
        }
        for (int d : NO_DEADLINES) {
            Check.due("5: setDeadline(0, " + d + ")", x.setDeadline(0, d), -1);
        }
        Check.due("5: bad calls change nothing", x.deadline(0), 8);
        Check.due("5: setDeadline(1, 1)", x.setDeadline(1, 1), 0);
        Check.due("5: deadline(1)", x.deadline(1), 1);
        Check.due("5: deadline(0) stays", x.deadline(0), 8);
        Check.due("5: the same again", x.setDeadline(1, 1), 0);
        Check.due("5: slot 0 is taken", x.setDeadline(0, 1), -3);
        Check.due("5: a refusal changes nothing", x.deadline(0), 8);
        Check.due("5: slot 1 is free", x.setDeadline(0, 2), 0);
        Check.due("5: three below 2", x.setDeadline(2, 2), -3);
        Check.due("5: a later deadline", x.setDeadline(1, 8), 0);
        Check.due("5: makes room", x.setDeadline(2, 2), 0);
        Check.due("5: deadline(2)", x.deadline(2), 2);
        Check.due("5: and 1 moves", x.earliest(1), 2);

        TwinPlanner chain = planner(2, 8, 8, 8);
        linkAll(chain, 0, 1, 1, 2);
        Check.due("5: the chain's end can't be in slot 1", chain.setDeadline(2, 2), -3);
        Check.due("5: it can be in slot 2", chain.setDeadline(2, 3), 0);
        Check.due("5: then its start needs no more than 1", chain.setDeadline(0, 1), 0);
        Check.due("5: back to 8", chain.setDeadline(2, 8), 0);
    }

    private static void promise6Link() {
        TwinPlanner x = planner(2, 8, 8, 8);
        for (int bad : NO_TASKS) {
            Check.due("6: link(0, " + bad + ")", x.link(0, bad), -1);
            Check.due("6: link(" + bad + ", 0)", x.link(bad, 0), -1);
            Check.due("6: link(" + bad + ", itself)", x.link(bad, bad), -1);
        }
        for (int id = 0; id < 3; id++) {
            Check.due("6: link(" + id + ", itself)", x.link(id, id), -1);
            Check.due("6: linked(" + id + ", itself)", x.linked(id, id), false);
        }
        Check.due("6: link(0, 1)", x.link(0, 1), 0);
        Check.due("6: linked(0, 1)", x.linked(0, 1), true);
        Check.due("6: not the other way", x.linked(1, 0), false);
        Check.due("6: 1 comes after 0", x.earliest(1), 1);
        Check.due("6: 0 waits for none", x.earliest(0), 0);
        Check.due("6: the same link again", x.link(0, 1), 0);
        Check.due("6: it is there still", x.linked(0, 1), true);
        Check.due("6: link(1, 2)", x.link(1, 2), 0);
        Check.due("6: a way is no link", x.linked(0, 2), false);
        Check.due("6: but it may become one", x.link(0, 2), 0);
        Check.due("6: linked(0, 2)", x.linked(0, 2), true);
        x.unlink(1, 2);
        Check.due("6: which holds by itself", x.earliest(2), 1);
    }

    private static void promise6LinkCycle() {
        TwinPlanner x = planner(2, 8, 8, 8, 8, 8, 8, 8);
        linkAll(x, 6, 5, 5, 4, 4, 3, 3, 2, 2, 1, 1, 0);
        for (int i = 0; i < 7; i++) {
            for (int j = i + 1; j < 7; j++) {
                Check.due("6: along the chain, link(" + i + ", " + j + ")", x.link(i, j), -4);
            }
        }
        Check.due("6: a cycle links nothing", x.linked(0, 6), false);
        Check.due("6: the chain stands", x.span(), 7);

        TwinPlanner mixed = planner(2, 8, 8, 8, 8, 8, 8, 8);
        linkAll(mixed, 3, 0, 0, 5, 5, 1, 1, 6, 6, 2, 2, 4);
        Check.due("6: a long way in mixed order", mixed.link(4, 3), -4);
        Check.due("6: forth along it", mixed.link(3, 4), 0);

        // Both ends of the link are at their last slots: without the way back it would be refused.
        TwinPlanner tight = planner(1, 1, 2);
        Check.due("6: refused, there is no way back", tight.link(1, 0), -3);
        linkAll(tight, 0, 1);
        Check.due("6: CYCLE comes before REFUSED", tight.link(1, 0), -4);
        Check.due("6: OK for what is there", tight.link(0, 1), 0);
    }

    private static void promise6LinkRefused() {
        TwinPlanner x = planner(2, 1, 1, 2);
        Check.due("6: both are in slot 0", x.link(0, 1), -3);
        Check.due("6: a refused link isn't there", x.linked(0, 1), false);
        Check.due("6: nor does it make a cycle", x.link(1, 0), -3);
        Check.due("6: 2 fits after", x.link(0, 2), 0);
        Check.due("6: but not before", x.link(2, 1), -3);

        // Slot 0 has no place for all three that must come before 3.
        TwinPlanner three = planner(2, 8, 8, 8, 2);
        linkAll(three, 0, 3, 1, 3);
        Check.due("6: three in one slot", three.link(2, 3), -3);
        Check.due("6: linked(2, 3)", three.linked(2, 3), false);
        Check.due("6: the slots stand", three.earliest(3), 1);
        three.setDeadline(3, 3);
        Check.due("6: with one slot more", three.link(2, 3), 0);

        // A chain over all eight slots is beyond seven tasks, but the last slot is there.
        TwinPlanner last = planner(1, 8, 8, 8, 8, 8, 8, 8);
        linkAll(last, 0, 1, 1, 2, 2, 3, 3, 4, 4, 5, 5, 6);
        Check.due("6: seven in a chain", last.earliest(6), 6);
    }

    private static void promise7Unlink() {
        TwinPlanner x = planner(2, 8, 8, 8);
        linkAll(x, 0, 1, 0, 2, 1, 2);
        for (int bad : NO_TASKS) {
            Check.due("7: unlink(0, " + bad + ")", x.unlink(0, bad), false);
            Check.due("7: unlink(" + bad + ", 1)", x.unlink(bad, 1), false);
            Check.due("7: unlink(" + bad + ", itself)", x.unlink(bad, bad), false);
        }
        Check.due("7: unlink(1, 0)", x.unlink(1, 0), false);
        Check.due("7: unlink(1, 1)", x.unlink(1, 1), false);
        Check.due("7: the links stand", x.linked(0, 1) && x.linked(0, 2) && x.linked(1, 2), true);
        Check.due("7: unlink(0, 1)", x.unlink(0, 1), true);
        Check.due("7: linked(0, 1)", x.linked(0, 1), false);
        Check.due("7: the others stand", x.linked(0, 2) && x.linked(1, 2), true);
        Check.due("7: unlink(0, 1) again", x.unlink(0, 1), false);
        Check.due("7: 1 need not wait", x.earliest(1), 0);
        Check.due("7: the other way is no cycle now", x.link(1, 0), 0);
        Check.due("7: both tasks are there", x.tasks(), 7);
    }

    private static void promise8Remove() {
        TwinPlanner x = planner(1, 3, 3, 3);
        linkAll(x, 0, 1, 1, 2);
        for (int bad : NO_TASKS) {
            Check.due("8: remove(" + bad + ")", x.remove(bad), false);
        }
        Check.due("8: the tasks stand", x.tasks(), 7);
        Check.due("8: add(3) is refused", x.add(3), -3);
        Check.due("8: remove(1)", x.remove(1), true);
        Check.due("8: tasks()", x.tasks(), 5);
        Check.due("8: deadline(1)", x.deadline(1), -1);
        Check.due("8: linked(0, 1)", x.linked(0, 1), false);
        Check.due("8: linked(1, 2)", x.linked(1, 2), false);
        Check.due("8: remove(1) again", x.remove(1), false);
        Check.due("8: the way through 1 is gone", x.link(2, 0), 0);
        Check.due("8: its slot is free", x.add(3), 1);
        Check.due("8: the old link from 0 is gone", x.linked(0, 1), false);
        Check.due("8: the old link to 2 is gone", x.linked(1, 2), false);
        Check.due("8: the new 1 can be first", x.earliest(1), 0);
        Check.due("8: remove(0)", x.remove(0), true);
        Check.due("8: remove(1)", x.remove(1), true);
        Check.due("8: remove(2)", x.remove(2), true);
        Check.due("8: no tasks", x.tasks(), 0);
        Check.due("8: no span", x.span(), 0);
    }

    private static void promise9Tasks() {
        TwinPlanner x = new TwinPlanner(2, 7);
        Check.due("9: none", x.tasks(), 0);
        for (int k = 0; k < 7; k++) {
            x.add(8);
            Check.due("9: after add " + k, x.tasks(), (1 << k + 1) - 1);
        }
        x.remove(3);
        Check.due("9: without 3", x.tasks(), 0b1110111);
        x.remove(0);
        Check.due("9: without 0 and 3", x.tasks(), 0b1110110);
        x.remove(6);
        Check.due("9: without 0, 3 and 6", x.tasks(), 0b0110110);
        x.addBefore(8, 5);
        Check.due("9: 0 again", x.tasks(), 0b0110111);
    }

    private static void promise10Deadline() {
        TwinPlanner x = planner(2, 4, 8, 1);
        for (int bad : NO_TASKS) {
            Check.due("10: deadline(" + bad + ")", x.deadline(bad), -1);
        }
        Check.due("10: deadline(0)", x.deadline(0), 4);
        Check.due("10: deadline(1)", x.deadline(1), 8);
        Check.due("10: deadline(2)", x.deadline(2), 1);
        x.setDeadline(0, 6);
        Check.due("10: deadline(0) as set", x.deadline(0), 6);
        x.link(0, 1);
        Check.due("10: a link leaves it", x.deadline(0), 6);
        x.remove(0);
        Check.due("10: deadline(0) when removed", x.deadline(0), -1);
        x.addBefore(7, 1);
        Check.due("10: deadline(0) of the new task", x.deadline(0), 7);
    }

    private static void promise11Linked() {
        TwinPlanner x = planner(2, 8, 8, 8);
        linkAll(x, 0, 1, 0, 2);
        for (int bad : NO_TASKS) {
            Check.due("11: linked(0, " + bad + ")", x.linked(0, bad), false);
            Check.due("11: linked(" + bad + ", 1)", x.linked(bad, 1), false);
            Check.due("11: linked(" + bad + ", itself)", x.linked(bad, bad), false);
        }
        for (int i = 0; i < 3; i++) {
            for (int j = 0; j < 3; j++) {
                boolean want = i == 0 && j != 0;
                Check.due("11: linked(" + i + ", " + j + ")", x.linked(i, j), want);
            }
        }
        x.remove(0);
        Check.due("11: linked(0, 1) when 0 is removed", x.linked(0, 1), false);
    }

    private static void promise12Span() {
        for (int machines = 1; machines <= 2; machines++) {
            TwinPlanner x = new TwinPlanner(machines, 7);
            Check.due("12: no tasks", x.span(), 0);
            for (int n = 1; n <= 7; n++) {
                x.add(8);
                Check.due("12: " + n + " on " + machines, x.span(), (n + machines - 1) / machines);
            }
        }
        TwinPlanner chain = planner(2, 8, 8, 8);
        linkAll(chain, 2, 1, 1, 0);
        Check.due("12: a chain of three", chain.span(), 3);
        Check.due("12: two beside it", chain.add(8), 3);
        Check.due("12: two beside it", chain.add(8), 4);
        Check.due("12: need no more", chain.span(), 3);

        // One root before three, which come before one: 0 | 1 2 | 3 | 4.
        TwinPlanner knot = planner(2, 8, 8, 8, 8, 8);
        linkAll(knot, 0, 1, 0, 2, 0, 3, 1, 4, 2, 4, 3, 4);
        Check.due("12: a root, three, an end", knot.span(), 4);
        Check.due("12: a deadline leaves it", knot.setDeadline(4, 4), 0);
        Check.due("12: span again", knot.span(), 4);
    }

    private static void promise13Earliest() {
        TwinPlanner x = planner(1, 8, 8, 8);
        for (int bad : NO_TASKS) {
            Check.due("13: earliest(" + bad + ")", x.earliest(bad), -1);
        }
        for (int id = 0; id < 3; id++) {
            Check.due("13: each can be first, " + id, x.earliest(id), 0);
        }
        x.setDeadline(2, 1);
        Check.due("13: 2 takes slot 0", x.earliest(0), 1);
        Check.due("13: earliest(1)", x.earliest(1), 1);
        Check.due("13: earliest(2)", x.earliest(2), 0);
        x.link(1, 0);
        Check.due("13: 0 after 1 after 2", x.earliest(0), 2);
        Check.due("13: the deadline stays", x.deadline(0), 8);

        TwinPlanner three = planner(2, 8, 8, 8, 8);
        linkAll(three, 0, 3, 1, 3, 2, 3);
        Check.due("13: three before it take two slots", three.earliest(3), 2);

        // 1 and 2 must be in slot 1 after 0, so slot 0 has one place beside 0 and slot 1 none.
        TwinPlanner fork = planner(2, 8, 2, 2, 1, 8);
        linkAll(fork, 0, 1, 0, 2);
        Check.due("13: slots 0 and 1 are taken", fork.earliest(4), 2);
    }

    private static void promise14Tightest() {
        TwinPlanner x = planner(1, 8, 1, 4);
        for (int bad : NO_TASKS) {
            Check.due("14: tightest(" + bad + ")", x.tightest(bad), -1);
        }
        linkAll(x, 0, 2);
        Check.due("14: tightest(0)", x.tightest(0), 2);
        Check.due("14: tightest(1)", x.tightest(1), 1);
        Check.due("14: tightest(2)", x.tightest(2), 3);
        Check.due("14: the deadlines stay", x.deadline(0), 8);
        Check.due("14: below it is refused", x.setDeadline(2, 2), -3);
        Check.due("14: it is accepted", x.setDeadline(2, 3), 0);
        Check.due("14: and is the least still", x.tightest(2), 3);

        TwinPlanner late = planner(1, 1, 2, 3, 4, 5, 6, 7);
        for (int id = 0; id < 7; id++) {
            Check.due("14: one slot each, tightest(" + id + ")", late.tightest(id), id + 1);
        }
        late.remove(0);
        Check.due("14: with slot 0 free", late.tightest(6), 1);
    }

    private static void promise15CouldPrecede() {
        TwinPlanner x = planner(2, 1, 2, 8);
        for (int bad : NO_TASKS) {
            Check.due("15: couldPrecede(0, " + bad + ")", x.couldPrecede(0, bad), false);
            Check.due("15: couldPrecede(" + bad + ", 0)", x.couldPrecede(bad, 0), false);
            Check.due("15: couldPrecede(" + bad + ", itself)", x.couldPrecede(bad, bad), false);
        }
        Check.due("15: a task before itself", x.couldPrecede(2, 2), false);
        Check.due("15: couldPrecede(0, 1)", x.couldPrecede(0, 1), true);
        Check.due("15: nothing is linked", x.linked(0, 1), false);
        Check.due("15: 1 need not wait", x.earliest(1), 0);
        Check.due("15: REFUSED is no", x.couldPrecede(1, 0), false);
        Check.due("15: couldPrecede(1, 2)", x.couldPrecede(1, 2), true);
        Check.due("15: couldPrecede(2, 1)", x.couldPrecede(2, 1), true);
        linkAll(x, 0, 1, 1, 2);
        Check.due("15: a link that is there", x.couldPrecede(0, 1), true);
        Check.due("15: along a way", x.couldPrecede(0, 2), true);
        x.setDeadline(1, 8);
        x.setDeadline(0, 8);
        Check.due("15: CYCLE is no", x.couldPrecede(2, 0), false);
        Check.due("15: no link of all that", x.linked(0, 2) || x.linked(2, 0), false);
    }

    private static void promise16SlotOf() {
        TwinPlanner x = planner(1, 8, 8, 8);
        for (int bad : NO_TASKS) {
            Check.due("16: slotOf(" + bad + ")", x.slotOf(bad), -1);
        }
        slotsDue("16: in the order of the numbers", x, 0, 1, 2, -1, -1, -1, -1);
        x.setDeadline(2, 1);
        slotsDue("16: 2 must be first", x, 1, 2, 0);
        x.link(1, 0);
        slotsDue("16: 1 before 0", x, 2, 1, 0);
        x.remove(1);
        slotsDue("16: without 1", x, 1, -1, 0);

        TwinPlanner pair = planner(2, 8, 8, 8, 8, 8);
        slotsDue("16: two by two", pair, 0, 0, 1, 1, 2);
        linkAll(pair, 2, 3, 3, 4);
        slotsDue("16: lower numbers come before a short end", pair, 0, 0, 1, 2, 3);

        // 0 is first of all served: 1 and 2, which must come before it, take slot 0 from 3 to 5.
        TwinPlanner served = planner(2, 8, 8, 8, 8, 8, 8);
        linkAll(served, 1, 0, 2, 0);
        slotsDue("16: 0 as soon as can be", served, 1, 0, 0, 1, 2, 2);

        TwinPlanner hole = planner(2, 8, 8, 3);
        linkAll(hole, 2, 1);
        slotsDue("16: a later number fills up", hole, 0, 1, 0);
        Check.due("16: a link from the last", hole.link(1, 0), 0);
        slotsDue("16: backwards", hole, 2, 1, 0);
        Check.due("16: the deadlines stay", hole.deadline(0) + hole.deadline(1) + hole.deadline(2), 19);
    }

    private static void promise17ShortSlotOf() {
        TwinPlanner x = planner(2, 8, 8, 8);
        for (int bad : NO_TASKS) {
            Check.due("17: shortSlotOf(" + bad + ")", x.shortSlotOf(bad), -1);
        }
        shortSlotsDue("17: without links", x, 0, 0, 1, -1, -1, -1, -1);
        TwinPlanner none = new TwinPlanner(2, 7);
        Check.due("17: no tasks", none.shortSlotOf(0), -1);

        TwinPlanner pair = planner(2, 8, 8, 8, 8, 8);
        linkAll(pair, 2, 3, 3, 4);
        Check.due("17: span()", pair.span(), 3);
        shortSlotsDue("17: the chain can't wait", pair, 0, 1, 0, 1, 2);
        slotsDue("17: slotOf is another", pair, 0, 0, 1, 2, 3);
        pair.setDeadline(1, 1);
        shortSlotsDue("17: 1 must be in slot 0", pair, 1, 0, 0, 1, 2);
        pair.remove(4);
        Check.due("17: span() without 4", pair.span(), 2);
        shortSlotsDue("17: without 4", pair, 1, 0, 0, 1, -1);
        pair.remove(0);
        shortSlotsDue("17: without 0", pair, -1, 0, 0, 1, -1);
        Check.due("17: the deadlines stay", pair.deadline(3), 8);
    }
}
