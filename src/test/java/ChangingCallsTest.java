/** Promises 1 to 7: a new object and the calls that change it, in ordinary use. */
public final class ChangingCallsTest {
    private static final int BAD_TASK = ProjectSchedule.BAD_TASK;
    private static final int NONE = ProjectSchedule.NONE;

    public static void main(String[] args) {
        promise1();
        promise2Numbers();
        promise2Needs();
        promise3();
        promise4();
        promise5();
        promise6();
        promise7();
        Check.end();
    }

    private static void promise1() {
        ProjectSchedule x = new ProjectSchedule();
        Check.due("1: drop on a new object", BAD_TASK, x.drop());
        Check.due("1: shortest on a new object", NONE, x.shortest());
        Check.due("1: first capacity of 0", 4, x.capacity(0, 1));
        Check.due("1: first capacity of 1", 4, x.capacity(1, 1));
        ProjectSchedule y = new ProjectSchedule();
        Check.due("1: another object is not touched", 4, y.capacity(0, 1));
        Check.due("1: the first task is number 0", 0, y.task(1, 0));
    }

    private static void promise2Numbers() {
        ProjectSchedule x = new ProjectSchedule();
        Check.due("2: task(1, 0)", 0, x.task(1, 0));
        Check.due("2: duration 1 is kept", 1, x.shortest());
        Check.due("2: task(9, 0)", 1, x.task(9, 0));
        Check.due("2: duration 9 is kept", 9, x.shortest());
        Check.due("2: release 0", 9, x.earliestEnd(1));
        Check.due("2: due time 99", 9 - 99, x.leastLateness());
    }

    private static void promise2Needs() {
        ProjectSchedule x = new ProjectSchedule();
        Check.due("2: both amounts 4", 0, x.task(2, 4 | 4 << 3));
        Check.due("2: bits above the sixth are not looked at", 1, x.task(3, 64 | 1));
        Check.due("2: nor are the lowest number's", 2, x.task(1, Numbers.LOW));
        Check.due("2: amount 1 of means 0 stands beside 4 of 4 only later", 5, x.shortest());
        Check.due("2: the third task needs nothing", 0, x.burden(2));
        x.capacity(0, 5);
        Check.due("2: of means 1 the second task needs nothing", 3, x.shortest());
        x.capacity(1, 3);
        Check.due("2: the first task needs 4 of means 1", NONE, x.shortest());
    }

    private static void promise3() {
        ProjectSchedule x = new ProjectSchedule();
        Check.due("3: the old capacity", 4, x.capacity(0, 8));
        Check.due("3: the other means has its own", 4, x.capacity(1, 1));
        Check.due("3: 8 was taken", 8, x.capacity(0, 1));
        Check.due("3: 1 was taken", 1, x.capacity(1, 8));
        Check.due("3: the same again", 1, x.capacity(0, 1));
        x.task(1, 1);
        Check.due("3: the capacity holds", 1, x.shortest());
        x.task(1, 1);
        Check.due("3: one at a time", 2, x.shortest());
        x.capacity(0, 2);
        Check.due("3: both at once", 1, x.shortest());
    }

    private static void promise4() {
        ProjectSchedule x = new ProjectSchedule();
        x.task(2, 0);
        x.task(3, 0);
        x.task(4, 0);
        Check.due("4: taking away what isn't there", 0, x.precede(0, 1, false));
        Check.due("4: setting", 0, x.precede(0, 1, true));
        Check.due("4: setting again", 1, x.precede(0, 1, true));
        Check.due("4: it is kept", 5, x.shortest());
        Check.due("4: another pair", 0, x.precede(1, 2, true));
        Check.due("4: a chain", 9, x.shortest());
        Check.due("4: over a task", 0, x.precede(0, 2, false));
        Check.due("4: taking away", 1, x.precede(0, 1, false));
        Check.due("4: it is away", 7, x.shortest());
        Check.due("4: taking away again", 0, x.precede(0, 1, false));
        Check.due("4: the other one is still there", 1, x.precede(1, 2, true));
    }

    private static void promise5() {
        ProjectSchedule x = new ProjectSchedule();
        x.task(3, 0);
        x.task(1, 0);
        Check.due("5: times(1, 20, 0)", 0, x.times(1, 20, 0));
        Check.due("5: release 20 is kept", 21, x.shortest());
        Check.due("5: due time 0 is kept", 21, x.leastLateness());
        Check.due("5: the other task has its own", 3, x.earliestEnd(0));
        Check.due("5: times(1, 0, 99)", 0, x.times(1, 0, 99));
        Check.due("5: release 0 again", 3, x.shortest());
        Check.due("5: due time 99 again", -96, x.leastLateness());
    }

    private static void promise6() {
        ProjectSchedule x = new ProjectSchedule();
        x.task(3, 0);
        x.task(2, 0);
        Check.due("6: the old duration", 3, x.stretch(0, 9));
        Check.due("6: 9 is kept", 9, x.shortest());
        Check.due("6: 9 is answered", 9, x.stretch(0, 1));
        Check.due("6: 1 is kept", 2, x.shortest());
        Check.due("6: the other task has its own", 2, x.stretch(1, 2));
    }

    private static void promise7() {
        ProjectSchedule x = new ProjectSchedule();
        Check.due("7: without tasks", BAD_TASK, x.drop());
        x.task(2, 4);
        x.task(3, 4);
        x.task(4, 4 << 3);
        x.precede(0, 1, true);
        x.precede(0, 2, true);
        x.precede(1, 2, true);
        x.times(2, 20, 1);
        Check.due("7: two are left", 2, x.drop());
        Check.due("7: the last one is out", 5, x.shortest());
        Check.due("7: its number is no task's", BAD_TASK, x.earliestEnd(2));
        Check.due("7: a new task in its place", 2, x.task(1, 0));
        Check.due("7: with no release and no precedence", 1, x.earliestEnd(2));
        Check.due("7: with due time 99 and no needs", 5 - 99, x.leastLateness());
        Check.due("7: precedence from 0 is out", 0, x.precede(0, 2, false));
        Check.due("7: precedence from 1 is out", 0, x.precede(1, 2, false));
        Check.due("7: the others' precedence stays", 1, x.precede(0, 1, true));
        Check.due("7: two left", 2, x.drop());
        Check.due("7: one left", 1, x.drop());
        Check.due("7: none left", 0, x.drop());
        Check.due("7: no more", BAD_TASK, x.drop());
        Check.due("7: no tasks to ask about", NONE, x.shortest());
        x.task(1, 0);
        x.task(1, 0);
        Check.due("7: no precedence is left over", 0, x.precede(0, 1, false));
    }
}
