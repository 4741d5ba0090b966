import java.util.function.Consumer;

/** The boundary cases of the questions: promises 9 to 17. */
public final class QuestionBoundariesTest extends Boundaries {
    public static void main(String[] args) {
        tasks9();
        deadline10();
        linked11();
        span12();
        span12LeastOverAll();
        earliest13();
        tightest14();
        couldPrecede15();
        couldPrecede15ChangesNothing();
        slotOf16();
        slotOf16None();
        shortSlotOf17();
        shortSlotOf17None();
        questionsChangeNothing();
        Check.end();
    }

    // "bit i is set when a task holds i": none, each, all.
    private static void tasks9() {
        Check.due("9: none", empty().tasks(), 0);
        Check.due("9: none any more", emptied().tasks(), 0);
        Check.due("9: all", busyAndFull().tasks(), 127);
        Check.due("9: all but 3 and 6", busy().tasks(), 0b0110111);
        for (int id = 0; id < 7; id++) {
            TwinPlanner x = busyAndFull();
            for (int other = 0; other < 7; other++) {
                if (other != id) {
                    x.remove(other);
                }
            }
            Check.due("9: " + id + " alone", x.tasks(), 1 << id);
        }
    }

    // "NONE when no task holds the number"
    private static void deadline10() {
        TwinPlanner full = busyAndFull();
        for (int id : NEVER_TASKS) {
            Check.due("10: deadline(" + id + ")", full.deadline(id), NONE);
        }
        TwinPlanner x = busy();
        Check.due("10: a number that was never held", x.deadline(6), NONE);
        Check.due("10: a number that is free again", x.deadline(3), NONE);
        Check.due("10: the greatest number held", x.deadline(5), 1);
        for (int id = 0; id < 7; id++) {
            Check.due("10: deadline(" + id + ") with all tasks gone", emptied().deadline(id), NONE);
        }
        TwinPlanner all = planner(1, 1, 2, 3, 4, 5, 6, 7);
        for (int id = 0; id < 7; id++) {
            Check.due("10: deadline(" + id + ")", all.deadline(id), id + 1);
        }
    }

    // "false when i or j is no task's number"
    private static void linked11() {
        TwinPlanner full = planner(1, 8, 8, 8, 8, 8, 8, 8);
        linkAllForth(full);
        for (int bad : NEVER_TASKS) {
            for (int id = 0; id < 7; id += 3) {
                Check.due("11: linked(" + bad + ", " + id + ")", full.linked(bad, id), false);
                Check.due("11: linked(" + id + ", " + bad + ")", full.linked(id, bad), false);
            }
            Check.due("11: linked(" + bad + ", itself)", full.linked(bad, bad), false);
        }
        TwinPlanner x = busy();
        Check.due("11: linked(0, 1)", x.linked(0, 1), true);
        x.remove(0);
        Check.due("11: from a task that is gone", x.linked(0, 1), false);
        x.remove(4);
        Check.due("11: to a task that is gone", x.linked(2, 4), false);
    }

    // "0 when there are no tasks."
    private static void span12() {
        Check.due("12: a new object", empty().span(), 0);
        Check.due("12: all tasks gone", emptied().span(), 0);
        Check.due("12: one task", planner(2, 8).span(), 1);
        TwinPlanner refusing = empty();
        refusing.add(9);
        refusing.addBefore(8, 0);
        Check.due("12: no task was added", refusing.span(), 0);
    }

    // "the least, over all good timetables, of the greatest slot plus 1"
    private static void span12LeastOverAll() {
        TwinPlanner chain = planner(2, 8, 8, 8, 8, 8, 8, 8);
        for (int k = 6; k > 0; k--) {
            linkAll(chain, k, k - 1);
            Check.due("12: chain of " + (8 - k), chain.span(), Math.max(4, 8 - k));
        }
        // The first timetable serves 0 and 1 first and ends in slot 3; another one needs a slot less.
        TwinPlanner shorter = planner(2, 8, 8, 8, 8, 8);
        linkAll(shorter, 2, 3, 3, 4);
        Check.due("12: slotOf(4)", shorter.slotOf(4), 3);
        Check.due("12: span()", shorter.span(), 3);
        // As many places as tasks, yet 0 is alone in slot 0 and 5 alone in the last: 0 | 1 2 | 3 4 | 5.
        TwinPlanner waist = planner(2, 8, 8, 8, 8, 8, 8);
        linkAll(waist, 0, 1, 0, 2, 0, 3, 0, 4, 1, 5, 2, 5, 3, 5, 4, 5);
        Check.due("12: the waist", waist.span(), 4);
        Check.due("12: busy", busy().span(), 3);
        Check.due("12: busy and full", busyAndFull().span(), 4);
    }

    // "The least slot of task id over all good timetables; NONE when no task holds the number."
    private static void earliest13() {
        TwinPlanner full = busyAndFull();
        for (int id : NEVER_TASKS) {
            Check.due("13: earliest(" + id + ")", full.earliest(id), NONE);
        }
        TwinPlanner x = busy();
        Check.due("13: a number that was never held", x.earliest(6), NONE);
        Check.due("13: a number that is free again", x.earliest(3), NONE);
        int[] want = {0, 1, 1, 2, 2, 0, 2};
        for (int id = 0; id < 7; id++) {
            Check.due("13: when full, earliest(" + id + ")", full.earliest(id), want[id]);
        }
        TwinPlanner alone = planner(1, 8);
        Check.due("13: one task", alone.earliest(0), 0);
        // Each of the three can be in slot 0, though not in one timetable.
        TwinPlanner three = planner(1, 3, 3, 3);
        for (int id = 0; id < 3; id++) {
            Check.due("13: over all timetables, earliest(" + id + ")", three.earliest(id), 0);
        }
        // Short ones, 1 3 | 2 4 | 0 5, leave 0 no place in slot 0; longer ones do.
        TwinPlanner longer = planner(2, 8, 8, 8, 8, 8, 8);
        linkAll(longer, 1, 2, 2, 5, 3, 4, 4, 5);
        Check.due("13: span()", longer.span(), 3);
        Check.due("13: shortSlotOf(0)", longer.shortSlotOf(0), 2);
        Check.due("13: earliest(0)", longer.earliest(0), 0);
        TwinPlanner chain = planner(2, 8, 8, 8, 8, 8, 8, 8);
        linkAll(chain, 0, 1, 1, 2, 2, 3, 3, 4, 4, 5, 5, 6);
        Check.due("13: the end of seven in a chain", chain.earliest(6), 6);
    }

    // "The least deadline that setDeadline(id, ..) would accept now; NONE when no task holds the number."
    private static void tightest14() {
        TwinPlanner full = busyAndFull();
        for (int id : NEVER_TASKS) {
            Check.due("14: tightest(" + id + ")", full.tightest(id), NONE);
        }
        TwinPlanner x = busy();
        Check.due("14: a number that was never held", x.tightest(6), NONE);
        Check.due("14: a number that is free again", x.tightest(3), NONE);
        for (int id = 0; id < 7; id++) {
            TwinPlanner set = busyAndFull();
            int tightest = set.tightest(id);
            int below = tightest == 1 ? BAD : REFUSED;
            Check.due("14: setDeadline(" + id + ", one less)", set.setDeadline(id, tightest - 1), below);
            Check.due("14: setDeadline(" + id + ", the least)", set.setDeadline(id, tightest), OK);
            Check.due("14: tightest(" + id + ") now", set.tightest(id), tightest);
        }
        Check.due("14: tightest(0)", x.tightest(0), 1);
        Check.due("14: tightest(1)", x.tightest(1), 2);
        Check.due("14: tightest(4)", x.tightest(4), 3);
        TwinPlanner chain = planner(1, 8, 8, 8, 8, 8, 8, 8);
        linkAll(chain, 0, 1, 1, 2, 2, 3, 3, 4, 4, 5, 5, 6);
        Check.due("14: the end of seven in a chain", chain.tightest(6), 7);
    }

    // "Whether link(i, j) would answer OK now."
    private static void couldPrecede15() {
        for (int pair = 0; pair < 49; pair++) {
            int i = pair / 7;
            int j = pair % 7;
            String call = "15: couldPrecede(" + i + ", " + j + ")";
            Check.due(call + " when busy", busy().couldPrecede(i, j), busy().link(i, j) == OK);
            Check.due(call + " when full", busyAndFull().couldPrecede(i, j), busyAndFull().link(i, j) == OK);
        }
        TwinPlanner full = busyAndFull();
        for (int bad : NEVER_TASKS) {
            Check.due("15: couldPrecede(" + bad + ", 4)", full.couldPrecede(bad, 4), false);
            Check.due("15: couldPrecede(0, " + bad + ")", full.couldPrecede(0, bad), false);
            Check.due("15: couldPrecede(" + bad + ", itself)", full.couldPrecede(bad, bad), false);
        }
        TwinPlanner x = busy();
        Check.due("15: BAD, a free number", x.couldPrecede(3, 4), false);
        Check.due("15: BAD, a free number", x.couldPrecede(0, 3), false);
        Check.due("15: BAD, a task and itself", x.couldPrecede(4, 4), false);
        Check.due("15: OK, the link is there already", x.couldPrecede(2, 4), true);
        Check.due("15: CYCLE", x.couldPrecede(4, 0), false);
        Check.due("15: REFUSED", x.couldPrecede(1, 5), false);
        Check.due("15: OK", x.couldPrecede(1, 4), true);
    }

    // "Nothing changes."
    private static void couldPrecede15ChangesNothing() {
        Consumer<TwinPlanner> asked = x -> {
            for (int pair = 0; pair < 49; pair++) {
                x.couldPrecede(pair / 7, pair % 7);
            }
        };
        unchanged("15: couldPrecede with no tasks", Boundaries::empty, asked);
        unchanged("15: couldPrecede when busy", Boundaries::busy, asked);
        TwinPlanner x = busy();
        Check.due("15: couldPrecede(1, 4)", x.couldPrecede(1, 4), true);
        Check.due("15: linked(1, 4)", x.linked(1, 4), false);
    }

    // "the task with the least number has the least slot it has in any good timetable; then the next number .."
    private static void slotOf16() {
        int[] want = {0, 1, 1, 2, 2, 0, 3};
        TwinPlanner full = busyAndFull();
        for (int id = 0; id < 7; id++) {
            Check.due("16: when full, slotOf(" + id + ")", full.slotOf(id), want[id]);
        }
        // The number counts, not when a task came or how near its deadline is.
        TwinPlanner later = planner(1, 8, 2, 3);
        later.remove(0);
        Check.due("16: add(8)", later.add(8), 0);
        Check.due("16: slotOf(0)", later.slotOf(0), 0);
        Check.due("16: slotOf(1)", later.slotOf(1), 1);
        Check.due("16: slotOf(2)", later.slotOf(2), 2);
        // 0 can't be in slot 0; among the timetables with 0 in slot 1, the next number has its say.
        TwinPlanner second = planner(2, 8, 8, 8, 8);
        linkAll(second, 3, 0);
        Check.due("16: slotOf(0) after 3", second.slotOf(0), 1);
        Check.due("16: slotOf(1) beside 3", second.slotOf(1), 0);
        Check.due("16: slotOf(2), for slot 0 has two", second.slotOf(2), 1);
        Check.due("16: slotOf(3)", second.slotOf(3), 0);
    }

    // "NONE when no task holds the number."
    private static void slotOf16None() {
        TwinPlanner full = busyAndFull();
        for (int id : NEVER_TASKS) {
            Check.due("16: slotOf(" + id + ")", full.slotOf(id), NONE);
        }
        TwinPlanner x = busy();
        Check.due("16: a number that was never held", x.slotOf(6), NONE);
        Check.due("16: a number that is free again", x.slotOf(3), NONE);
        for (int id = 0; id < 7; id++) {
            Check.due("16: slotOf(" + id + ") with all tasks gone", emptied().slotOf(id), NONE);
        }
    }

    // "the same, but only among the good timetables that use no slot from span() on"
    private static void shortSlotOf17() {
        TwinPlanner x = planner(2, 8, 8, 8, 8, 8);
        linkAll(x, 2, 3, 3, 4);
        int[] want = {0, 1, 0, 1, 2};
        Check.due("17: span()", x.span(), 3);
        Check.due("17: the first timetable uses the slot span()", x.slotOf(4), 3);
        for (int id = 0; id < 5; id++) {
            Check.due("17: shortSlotOf(" + id + ")", x.shortSlotOf(id), want[id]);
        }
        // Where the first timetable is short, it is the first short one.
        TwinPlanner full = busyAndFull();
        for (int id = 0; id < 7; id++) {
            Check.due("17: when full, shortSlotOf(" + id + ")", full.shortSlotOf(id), full.slotOf(id));
        }
        // A deadline below span() still binds: 1 and 2 share slot 0, so 0 waits.
        TwinPlanner bound = planner(2, 8, 1, 8, 8, 8);
        linkAll(bound, 2, 3, 3, 4);
        int[] boundWant = {1, 0, 0, 1, 2};
        for (int id = 0; id < 5; id++) {
            Check.due("17: a deadline binds, shortSlotOf(" + id + ")", bound.shortSlotOf(id), boundWant[id]);
        }
        Check.due("17: one task", planner(2, 8).shortSlotOf(0), 0);
    }

    // "NONE when no task holds the number."
    private static void shortSlotOf17None() {
        TwinPlanner full = busyAndFull();
        for (int id : NEVER_TASKS) {
            Check.due("17: shortSlotOf(" + id + ")", full.shortSlotOf(id), NONE);
        }
        TwinPlanner x = busy();
        Check.due("17: a number that was never held", x.shortSlotOf(6), NONE);
        Check.due("17: a number that is free again", x.shortSlotOf(3), NONE);
        for (int id = 0; id < 7; id++) {
            Check.due("17: shortSlotOf(" + id + ") with all tasks gone", emptied().shortSlotOf(id), NONE);
        }
    }

    // "Nothing is promised beyond the .. state changes described": a question has none.
    private static void questionsChangeNothing() {
        unchanged("9 to 17: a question", Boundaries::busy, x -> {
            for (int id = -1; id <= 7; id++) {
                x.deadline(id);
                x.linked(0, id);
                x.earliest(id);
                x.tightest(id);
                x.slotOf(id);
                x.shortSlotOf(id);
                x.tasks();
                x.span();
            }
        });
    }
}
