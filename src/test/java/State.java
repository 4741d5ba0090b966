/** Everything that can be asked of a planner, written down, so that two planners can be held against each other. */
final class State {
    // 206 calls in all: a planner may have had some 300 before, and still be within its 512.
    private State() {
    }

    static String of(TwinPlanner x) {
        StringBuilder out = new StringBuilder("tasks " + x.tasks() + ", span " + x.span());
        for (int id = 0; id < 7; id++) {
            out.append("; ").append(id).append(": deadline ").append(x.deadline(id));
            out.append(" earliest ").append(x.earliest(id)).append(" tightest ").append(x.tightest(id));
            out.append(" slot ").append(x.slotOf(id)).append(" short ").append(x.shortSlotOf(id));
        }
        out.append("; links").append(links(x)).append("; could").append(couldBeLinks(x)).append("; probes");
        for (int d = 1; d <= 8; d++) {
            out.append(' ').append(x.probe(d));
        }
        return out.append("; ").append(filledUp(x)).toString();
    }

    // What a refused call left behind under a free number shows only when a task holds that number.
    private static String filledUp(TwinPlanner x) {
        StringBuilder out = new StringBuilder("filled up");
        for (int k = 0; k < 7; k++) {
            out.append(' ').append(x.add(8));
        }
        out.append(", links").append(links(x)).append(", slots");
        for (int id = 0; id < 7; id++) {
            out.append(' ').append(x.slotOf(id));
        }
        return out.toString();
    }

    private static String links(TwinPlanner x) {
        StringBuilder out = new StringBuilder();
        for (int pair = 0; pair < 49; pair++) {
            out.append(x.linked(pair / 7, pair % 7) ? " " + pair / 7 + ">" + pair % 7 : "");
        }
        return out.toString();
    }

    private static String couldBeLinks(TwinPlanner x) {
        StringBuilder out = new StringBuilder();
        for (int pair = 0; pair < 49; pair++) {
            out.append(x.couldPrecede(pair / 7, pair % 7) ? " " + pair / 7 + ">" + pair % 7 : "");
        }
        return out.toString();
    }
}
