/** Promises 1 to 7: a new object and the calls that change it. */
public final class ChangingCallsTest {
    private static final int BAD_TASK = ProjectSchedule.BAD_TASK;
    private static final int BAD_NUMBER = ProjectSchedule.BAD_NUMBER;
    private static final int FULL = ProjectSchedule.FULL;
    private static final int NONE = ProjectSchedule.NONE;
    private static final int LOW = Integer.MIN_VALUE;
    private static final int HIGH = Integer.MAX_VALUE;

    public static void main(String[] args) {
        promise1();
        promise2Numbers();
        promise2Needs();
        promise2Full();
        promise3();
        promise4();
        promise4Wrong();
        promise5();
        promise6();
        promise7();
        Check.end();
    }

    private static void promise1() {
        ProjectSchedule x = new ProjectSchedule();
        Check.due("1: drop on a new object", BAD_TASK, x.drop());
        Check.due("1: shortest on a new object", NONE, x.shortest());
        Check.due("1: first capacity of 0", 4, x.capacity(0, 1));
        Check.due("1: first capacity of 1", 4, x.capacity(1, 1));
        ProjectSchedule y = new ProjectSchedule();
        Check.due("1: another object is not touched", 4, y.capacity(0, 1));
        Check.due("1: the first task is number 0", 0, y.task(1, 0));
    }

    private static void promise2Numbers() {
        ProjectSchedule x = new ProjectSchedule();
        int[] wrong = {0, -1, 10, LOW, HIGH};
        for (int duration : wrong) {
            Check.due("2: task(" + duration + ", 0)", BAD_NUMBER, x.task(duration, 0));
        }
        Check.due("2: refused tasks are not there", BAD_TASK, x.drop());
        Check.due("2: task(1, 0)", 0, x.task(1, 0));
        Check.due("2: duration 1 is kept", 1, x.shortest());
        Check.due("2: task(9, 0)", 1, x.task(9, 0));
        Check.due("2: duration 9 is kept", 9, x.shortest());
        Check.due("2: release 0", 9, x.earliestEnd(1));
        Check.due("2: due time 99", 9 - 99, x.leastLateness());
    }

    private static void promise2Needs() {
        ProjectSchedule x = new ProjectSchedule();
        int[] wrong = {5, 6, 7, 5 << 3, 6 << 3, 7 << 3, 4 | 5 << 3, 5 | 4 << 3, -1, HIGH, 64 | 5};
        for (int needs : wrong) {
            Check.due("2: task(1, " + needs + ")", BAD_NUMBER, x.task(1, needs));
        }
        Check.due("2: both amounts 4", 0, x.task(2, 4 | 4 << 3));
        Check.due("2: bits above the sixth are not looked at", 1, x.task(3, 64 | 1));
        Check.due("2: nor are the lowest number's", 2, x.task(1, LOW));
        Check.due("2: amount 1 of means 0 stands beside 4 of 4 only later", 5, x.shortest());
        Check.due("2: the third task needs nothing", 0, x.burden(2));
        x.capacity(0, 5);
        Check.due("2: of means 1 the second task needs nothing", 3, x.shortest());
        x.capacity(1, 3);
        Check.due("2: the first task needs 4 of means 1", NONE, x.shortest());
    }

    private static void promise2Full() {
        ProjectSchedule x = new ProjectSchedule();
        for (int number = 0; number < 6; number++) {
            Check.due("2: number of a task", number, x.task(number + 1, 0));
        }
        Check.due("2: a seventh task", FULL, x.task(1, 0));
        Check.due("2: a bad duration is told ahead of FULL", BAD_NUMBER, x.task(10, 0));
        Check.due("2: a bad amount is told ahead of FULL", BAD_NUMBER, x.task(1, 5));
        Check.due("2: six are left as they were", 6, x.shortest());
        Check.due("2: one of six is taken out", 5, x.drop());
        Check.due("2: there is room again", 5, x.task(9, 0));
        Check.due("2: the new one counts", 9, x.shortest());
    }

    private static void promise3() {
        ProjectSchedule x = new ProjectSchedule();
        int[] wrongMeans = {-1, 2, LOW, HIGH};
        for (int means : wrongMeans) {
            Check.due("3: capacity(" + means + ", 3)", BAD_NUMBER, x.capacity(means, 3));
        }
        int[] wrongCapacity = {0, -1, 9, LOW, HIGH};
        for (int capacity : wrongCapacity) {
            Check.due("3: capacity(0, " + capacity + ")", BAD_NUMBER, x.capacity(0, capacity));
            Check.due("3: capacity(1, " + capacity + ")", BAD_NUMBER, x.capacity(1, capacity));
        }
        Check.due("3: refused calls changed nothing", 4, x.capacity(0, 8));
        Check.due("3: the other means has its own", 4, x.capacity(1, 1));
        Check.due("3: 8 was taken", 8, x.capacity(0, 1));
        Check.due("3: 1 was taken", 1, x.capacity(1, 8));
        Check.due("3: the same again", 1, x.capacity(0, 1));
        x.task(1, 1);
        Check.due("3: the capacity holds", 1, x.shortest());
        x.task(1, 1);
        Check.due("3: one at a time", 2, x.shortest());
        x.capacity(0, 2);
        Check.due("3: both at once", 1, x.shortest());
    }

    private static void promise4() {
        ProjectSchedule x = new ProjectSchedule();
        x.task(2, 0);
        x.task(3, 0);
        x.task(4, 0);
        Check.due("4: taking away what isn't there", 0, x.precede(0, 1, false));
        Check.due("4: setting", 0, x.precede(0, 1, true));
        Check.due("4: setting again", 1, x.precede(0, 1, true));
        Check.due("4: it is kept", 5, x.shortest());
        Check.due("4: another pair", 0, x.precede(1, 2, true));
        Check.due("4: a chain", 9, x.shortest());
        Check.due("4: over a task", 0, x.precede(0, 2, false));
        Check.due("4: taking away", 1, x.precede(0, 1, false));
        Check.due("4: it is away", 7, x.shortest());
        Check.due("4: taking away again", 0, x.precede(0, 1, false));
        Check.due("4: the other one is still there", 1, x.precede(1, 2, true));
    }

    private static void promise4Wrong() {
        ProjectSchedule x = new ProjectSchedule();
        Check.due("4: without tasks", BAD_TASK, x.precede(0, 1, true));
        x.task(2, 0);
        x.task(3, 0);
        int[][] wrong = {{0, 0}, {1, 1}, {1, 0}, {-1, 0}, {-1, 1}, {0, 2}, {1, 2}, {0, 6}, {5, 6},
            {0, -1}, {-2, -1}, {LOW, 1}, {0, HIGH}, {LOW, HIGH}, {HIGH, LOW}, {0, LOW}, {HIGH, 1}};
        for (int[] pair : wrong) {
            String call = "4: precede(" + pair[0] + ", " + pair[1] + ")";
            Check.due(call, BAD_TASK, x.precede(pair[0], pair[1], true));
            Check.due(call, BAD_TASK, x.precede(pair[0], pair[1], false));
        }
        Check.due("4: refused calls changed nothing", 3, x.shortest());
        x.task(4, 0);
        Check.due("4: nor for a later task", 0, x.precede(0, 2, false));
        Check.due("4: nor for this one", 0, x.precede(1, 2, false));
    }

    private static void promise5() {
        ProjectSchedule x = new ProjectSchedule();
        Check.due("5: without tasks", BAD_TASK, x.times(0, 0, 0));
        x.task(3, 0);
        x.task(1, 0);
        int[] noTask = {-1, 2, 6, LOW, HIGH};
        for (int task : noTask) {
            Check.due("5: times(" + task + ", 1, 1)", BAD_TASK, x.times(task, 1, 1));
            Check.due("5: the task is tested first", BAD_TASK, x.times(task, -1, 100));
        }
        int[] wrongRelease = {-1, 21, LOW, HIGH};
        for (int release : wrongRelease) {
            Check.due("5: times(0, " + release + ", 5)", BAD_NUMBER, x.times(0, release, 5));
        }
        int[] wrongDue = {-1, 100, LOW, HIGH};
        for (int due : wrongDue) {
            Check.due("5: times(0, 5, " + due + ")", BAD_NUMBER, x.times(0, 5, due));
        }
        Check.due("5: refused calls changed no release", 3, x.shortest());
        Check.due("5: refused calls changed no due time", -96, x.leastLateness());
        Check.due("5: times(1, 20, 0)", 0, x.times(1, 20, 0));
        Check.due("5: release 20 is kept", 21, x.shortest());
        Check.due("5: due time 0 is kept", 21, x.leastLateness());
        Check.due("5: the other task has its own", 3, x.earliestEnd(0));
        Check.due("5: times(1, 0, 99)", 0, x.times(1, 0, 99));
        Check.due("5: release 0 again", 3, x.shortest());
        Check.due("5: due time 99 again", -96, x.leastLateness());
    }

    private static void promise6() {
        ProjectSchedule x = new ProjectSchedule();
        Check.due("6: without tasks", BAD_TASK, x.stretch(0, 1));
        x.task(3, 0);
        x.task(2, 0);
        int[] noTask = {-1, 2, 6, LOW, HIGH};
        for (int task : noTask) {
            Check.due("6: stretch(" + task + ", 1)", BAD_TASK, x.stretch(task, 1));
            Check.due("6: the task is tested first", BAD_TASK, x.stretch(task, 0));
        }
        int[] wrong = {0, -1, 10, LOW, HIGH};
        for (int duration : wrong) {
            Check.due("6: stretch(0, " + duration + ")", BAD_NUMBER, x.stretch(0, duration));
        }
        Check.due("6: refused calls changed nothing", 3, x.stretch(0, 9));
        Check.due("6: 9 is kept", 9, x.shortest());
        Check.due("6: 9 is answered", 9, x.stretch(0, 1));
        Check.due("6: 1 is kept", 2, x.shortest());
        Check.due("6: the other task has its own", 2, x.stretch(1, 2));
    }

    private static void promise7() {
        ProjectSchedule x = new ProjectSchedule();
        Check.due("7: without tasks", BAD_TASK, x.drop());
        x.task(2, 4);
        x.task(3, 4);
        x.task(4, 4 << 3);
        x.precede(0, 1, true);
        x.precede(0, 2, true);
        x.precede(1, 2, true);
        x.times(2, 20, 1);
        Check.due("7: two are left", 2, x.drop());
        Check.due("7: the last one is out", 5, x.shortest());
        Check.due("7: its number is no task's", BAD_TASK, x.earliestEnd(2));
        Check.due("7: a new task in its place", 2, x.task(1, 0));
        Check.due("7: with no release and no precedence", 1, x.earliestEnd(2));
        Check.due("7: with due time 99 and no needs", 5 - 99, x.leastLateness());
        Check.due("7: precedence from 0 is out", 0, x.precede(0, 2, false));
        Check.due("7: precedence from 1 is out", 0, x.precede(1, 2, false));
        Check.due("7: the others' precedence stays", 1, x.precede(0, 1, true));
        Check.due("7: two left", 2, x.drop());
        Check.due("7: one left", 1, x.drop());
        Check.due("7: none left", 0, x.drop());
        Check.due("7: no more", BAD_TASK, x.drop());
        Check.due("7: no tasks to ask about", NONE, x.shortest());
        x.task(1, 0);
        x.task(1, 0);
        Check.due("7: no precedence is left over", 0, x.precede(0, 1, false));
    }
}
