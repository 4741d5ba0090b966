/** The example of README.md answers what is said beside it. */
public final class ReadmeTest {
    public static void main(String[] args) {
        TwinPlanner planner = new TwinPlanner(2, 7);
        int first = planner.add(8);
        Check.due("README: first", first, 0);
        int second = planner.add(2);
        Check.due("README: second", second, 1);
        Check.due("README: link(first, second)", planner.link(first, second), TwinPlanner.OK);
        Check.due("README: link(second, first)", planner.link(second, first), TwinPlanner.CYCLE);
        Check.due("README: addBefore(8, first)", planner.addBefore(8, first), TwinPlanner.REFUSED);
        Check.due("README: slotOf(second)", planner.slotOf(second), 1);
        Check.due("README: span()", planner.span(), 2);
        Check.end();
    }
}
