/** Promises 8 to 14: the calls that ask, with answers worked out by hand. */
public final class AskingCallsTest {
    private static final int NONE = ProjectSchedule.NONE;

    public static void main(String[] args) {
        promise8();
        promise8Waiting();
        promise9();
        promise10();
        promise11();
        promise12();
        promise12MoreThanItsDuration();
        promise13();
        promise14();
        Check.end();
    }

    /** Each row is a task: duration, amount of means 0, amount of means 1, release, due time. */
    private static ProjectSchedule project(int[][] rows) {
        ProjectSchedule x = new ProjectSchedule();
        for (int[] row : rows) {
            int number = x.task(row[0], row[1] | row[2] << 3);
            x.times(number, row[3], row[4]);
        }
        return x;
    }

    private static void promise8() {
        ProjectSchedule x = project(new int[][] {{5, 3, 0, 0, 99}, {3, 3, 0, 0, 99}});
        Check.due("8: one after the other", 8, x.shortest());
        x.capacity(0, 6);
        Check.due("8: both at once", 5, x.shortest());
        x.times(1, 20, 99);
        Check.due("8: a release", 23, x.shortest());
        x.times(1, 4, 99);
        x.precede(0, 1, true);
        Check.due("8: a precedence", 8, x.shortest());
        x.times(1, 6, 99);
        Check.due("8: a release behind the precedence", 9, x.shortest());

        ProjectSchedule y = project(new int[][] {{5, 3, 0, 0, 99}, {4, 0, 3, 0, 99}});
        Check.due("8: each means on its own", 5, y.shortest());
        ProjectSchedule z = project(new int[][] {{5, 1, 3, 0, 99}, {4, 1, 2, 0, 99}});
        Check.due("8: means 1 is too scarce", 9, z.shortest());
        ProjectSchedule due = project(new int[][] {{5, 3, 0, 0, 0}, {3, 3, 0, 0, 0}});
        Check.due("8: due times do not count", 8, due.shortest());
    }

    private static void promise8Waiting() {
        // Beginning the long task at once gives 19; waiting for the short one's release gives 11.
        ProjectSchedule x = project(new int[][] {
            {9, 4, 0, 0, 99}, {1, 4, 0, 1, 99}, {9, 0, 0, 0, 99}});
        x.precede(1, 2, true);
        Check.due("8: waiting is better", 11, x.shortest());

        // 3 and 1, 2 and 2, side by side in the capacity of 4.
        ProjectSchedule y = project(new int[][] {
            {4, 3, 0, 0, 99}, {3, 2, 0, 0, 99}, {3, 2, 0, 0, 99}, {4, 1, 0, 0, 99}});
        Check.due("8: the right ones together", 7, y.shortest());

        // The first two leave room from 2 to 5, into which the third one just goes.
        ProjectSchedule z = project(new int[][] {
            {2, 4, 0, 0, 99}, {2, 4, 0, 5, 99}, {3, 4, 0, 0, 99}});
        Check.due("8: a gap is filled", 7, z.shortest());
        z.stretch(2, 4);
        Check.due("8: a gap too small", 8, z.shortest());
    }

    private static void promise9() {
        ProjectSchedule one = project(new int[][] {{1, 0, 0, 0, 99}});
        Check.due("9: far below 0", -98, one.leastLateness());
        one.times(0, 20, 0);
        Check.due("9: far above 0", 21, one.leastLateness());
        one.times(0, 4, 5);
        Check.due("9: just in time", 0, one.leastLateness());

        ProjectSchedule x = project(new int[][] {{3, 4, 0, 0, 99}, {2, 4, 0, 0, 2}});
        Check.due("9: the urgent one first", 0, x.leastLateness());
        x.times(0, 0, 4);
        Check.due("9: the other one is late now", 1, x.leastLateness());
        x.times(1, 0, 10);
        Check.due("9: it goes first now", -1, x.leastLateness());

        // The shortest plan, 11 long, is 2 late: the long task then ends at 11.
        ProjectSchedule y = project(new int[][] {
            {9, 4, 0, 0, 9}, {1, 4, 0, 1, 99}, {9, 0, 0, 0, 99}});
        y.precede(1, 2, true);
        Check.due("9: not the shortest plan", 0, y.leastLateness());
        Check.due("8: though there is a shorter one", 11, y.shortest());
    }

    private static void promise10() {
        ProjectSchedule x = project(new int[][] {
            {3, 4, 0, 0, 99}, {2, 4, 0, 0, 99}, {1, 0, 0, 0, 99}, {7, 4, 4, 0, 0}});
        x.precede(0, 2, true);
        x.precede(1, 2, true);
        Check.due("10: the others wait for 0", 3, x.earliestEnd(0));
        Check.due("10: the others wait for 1", 2, x.earliestEnd(1));
        Check.due("10: behind two that exclude each other", 6, x.earliestEnd(2));
        Check.due("10: the others wait for 3", 7, x.earliestEnd(3));
        x.capacity(0, 8);
        Check.due("10: behind two at once", 4, x.earliestEnd(2));
        x.times(2, 9, 99);
        Check.due("10: a release", 10, x.earliestEnd(2));
        x.times(0, 20, 99);
        Check.due("10: a release of the one before", 24, x.earliestEnd(2));
        x.precede(2, 3, true);
        Check.due("10: through a chain", 31, x.earliestEnd(3));
    }

    private static void promise11() {
        ProjectSchedule x = project(new int[][] {
            {3, 4, 4, 0, 99}, {5, 4, 4, 0, 99}, {4, 4, 4, 0, 99}});
        Check.due("11: all at once", 5, x.withoutLimits());
        Check.due("8: with limits", 12, x.shortest());
        x.precede(0, 2, true);
        Check.due("11: a precedence", 7, x.withoutLimits());
        x.times(0, 2, 0);
        Check.due("11: a release of the first", 9, x.withoutLimits());
        x.times(1, 20, 0);
        Check.due("11: a release of another", 25, x.withoutLimits());
        x.capacity(0, 1);
        Check.due("11: with limits no plan is feasible", NONE, x.withoutLimits());
    }

    private static void promise12() {
        ProjectSchedule x = project(new int[][] {
            {3, 4, 0, 0, 99}, {5, 4, 4, 0, 99}, {2, 0, 4, 0, 99}, {1, 0, 0, 0, 99}});
        Check.due("8: ahead of the burdens", 8, x.shortest());
        Check.due("12: the second and third stay in each other's way", 1, x.burden(0));
        Check.due("12: needs both means", 3, x.burden(1));
        Check.due("12: needs, but costs nothing", 0, x.burden(2));
        Check.due("12: needs nothing", 0, x.burden(3));
        Check.due("12: the first again", 1, x.burden(0));
        Check.due("12: the means 1 is still needed", 4, x.leastCapacity(1));
        x.capacity(1, 3);
        Check.due("12: its needs are back", NONE, x.shortest());
        x.capacity(1, 4);
        x.precede(0, 1, true);
        Check.due("12: a precedence stays", 0, x.burden(1));
    }

    private static void promise12MoreThanItsDuration() {
        // Two chains of 18. The short task, from 4 to 5, needs all there is and falls into the
        // first of the long one, from 0 to 9: either that one waits till 5, or it waits till 9.
        ProjectSchedule x = project(new int[][] {
            {9, 1, 0, 0, 99}, {9, 0, 0, 0, 99}, {1, 4, 0, 4, 99}, {9, 0, 0, 0, 99}, {4, 0, 0, 0, 99}});
        x.precede(0, 1, true);
        x.precede(2, 3, true);
        x.precede(3, 4, true);
        Check.due("11: each chain on its own", 18, x.withoutLimits());
        Check.due("8: one of the chains waits", 23, x.shortest());
        Check.due("12: a task of 1 costs 5", 5, x.burden(2));
        Check.due("12: so does the one in its way", 5, x.burden(0));
        Check.due("12: what comes behind costs nothing", 0, x.burden(3));
    }

    private static void promise13() {
        ProjectSchedule x = project(new int[][] {
            {3, 2, 1, 0, 99}, {3, 3, 1, 0, 99}, {3, 0, 1, 0, 99}});
        Check.due("8: two wait for means 0", 6, x.shortest());
        Check.due("13: less would be no plan", 3, x.leastCapacity(0));
        Check.due("13: two at a time are enough", 2, x.leastCapacity(1));
        x.capacity(0, 8);
        Check.due("8: all at once", 3, x.shortest());
        Check.due("13: just the sum", 5, x.leastCapacity(0));
        Check.due("13: three at a time", 3, x.leastCapacity(1));
        Check.due("13: it is still 8", 8, x.capacity(0, 8));
        Check.due("13: it is still 4", 4, x.capacity(1, 1));
        Check.due("8: one at a time", 9, x.shortest());
        Check.due("13: the other one as it is", 3, x.leastCapacity(0));
        Check.due("13: the least there is", 1, x.leastCapacity(1));

        ProjectSchedule none = project(new int[][] {{3, 0, 0, 0, 99}});
        Check.due("13: nothing needed of 0", 1, none.leastCapacity(0));
        Check.due("13: nothing needed of 1", 1, none.leastCapacity(1));
        none.capacity(1, 1);
        Check.due("13: 1 already", 1, none.leastCapacity(1));

        ProjectSchedule all = project(new int[][] {{3, 4, 0, 0, 99}, {2, 4, 0, 0, 99}});
        all.capacity(0, 8);
        Check.due("13: all 8", 8, all.leastCapacity(0));
        all.capacity(0, 7);
        Check.due("13: 7 are no better than 4", 4, all.leastCapacity(0));
    }

    private static void promise14() {
        ProjectSchedule x = project(new int[][] {{3, 0, 0, 0, 99}, {3, 0, 0, 0, 99}});
        Check.due("14: two of the same length", 2, x.critical());
        x.stretch(0, 4);
        Check.due("14: one has room", 1, x.critical());
        x.times(1, 1, 99);
        Check.due("14: the release takes the room", 2, x.critical());
        x.times(1, 20, 99);
        Check.due("14: only the late one", 1, x.critical());
        x.stretch(1, 9);
        Check.due("14: one that takes 9", 1, x.critical());
        Check.due("14: it still takes 9", 9, x.stretch(1, 9));

        ProjectSchedule y = project(new int[][] {
            {3, 4, 0, 0, 99}, {3, 4, 0, 0, 99}, {5, 0, 4, 0, 99}});
        Check.due("14: scarce means make both critical", 2, y.critical());
        y.capacity(0, 8);
        Check.due("14: with means enough only the longest", 1, y.critical());
        y.precede(0, 1, true);
        Check.due("14: a precedence", 2, y.critical());
        y.stretch(2, 6);
        Check.due("14: all of them", 3, y.critical());

        ProjectSchedule none = project(new int[][] {{3, 4, 0, 0, 99}, {3, 4, 0, 8, 99}, {5, 4, 0, 0, 99}});
        Check.due("14: no room is left", 3, none.critical());
        none.times(1, 10, 99);
        Check.due("14: two units of room", 1, none.critical());
    }
}
