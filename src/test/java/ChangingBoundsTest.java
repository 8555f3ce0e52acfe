import java.util.function.ToIntFunction;

/**
 * The sentences of promises 1 to 7 that name a boundary case, and the one on 512 calls: both sides
 * of each bound, and that a refused call changes nothing.
 */
public final class ChangingBoundsTest {
    private static final int BAD_TASK = ProjectSchedule.BAD_TASK;
    private static final int BAD_NUMBER = ProjectSchedule.BAD_NUMBER;
    private static final int FULL = ProjectSchedule.FULL;
    private static final int NONE = ProjectSchedule.NONE;
    private static final int CALLS = 512;

    public static void main(String[] args) {
        calls512InTurn();
        calls512OfOneKind();
        promise1NoTasks();
        promise1Capacities();
        promise2Duration();
        promise2AmountsByBits();
        promise2AmountAbove4();
        promise2Six();
        promise2OrderOfTests();
        promise3Means();
        promise3Capacity();
        promise4Pairs();
        promise4FarNumbers();
        promise5Task();
        promise5Numbers();
        promise6Task();
        promise6Duration();
        promise7Count();
        promise7Precedences();
        Check.end();
    }

    // "An object is used for at most 512 calls after it has been made"

    private static void calls512InTurn() {
        ProjectSchedule x = new ProjectSchedule();
        int calls = 0;
        for (int turn = 0; turn < CALLS / 16; turn++) {
            String when = "turn " + turn + ": ";
            int[] due = {0, 1, 4, 0, 0, 2, 7, 2, 7, 7, 0, 4, 1, 8, 1, 0};
            int[] got = {x.task(3, 4), x.task(2, 4 | 1 << 3), x.capacity(0, 8),
                x.precede(0, 1, true), x.times(1, 4, 5), x.stretch(1, 3), x.shortest(),
                x.leastLateness(), x.earliestEnd(1), x.withoutLimits(), x.burden(0),
                x.leastCapacity(0), x.critical(), x.capacity(0, 4), x.drop(), x.drop()};
            for (int call = 0; call < 16; call++) {
                Check.due(when + "call " + call, due[call], got[call]);
                calls++;
            }
        }
        Check.due("calls made in turn", CALLS, calls);
    }

    private static void calls512OfOneKind() {
        Project six = Project.SIX;
        same("task on six", six, FULL, x -> x.task(1, 0));
        same("task refused", Project.NEW, BAD_NUMBER, x -> x.task(0, 0));
        same("capacity", six, 5, x -> x.capacity(0, 5));
        same("precede", six, 1, x -> x.precede(0, 2, true));
        same("times", six, 0, x -> x.times(5, 7, 23));
        same("stretch", six, 4, x -> x.stretch(5, 4));
        same("drop refused", Project.NEW, BAD_TASK, x -> x.drop());
        same("shortest", six, six.make().shortest(), x -> x.shortest());
        same("leastLateness", six, six.make().leastLateness(), x -> x.leastLateness());
        same("earliestEnd", six, six.make().earliestEnd(5), x -> x.earliestEnd(5));
        same("withoutLimits", six, six.make().withoutLimits(), x -> x.withoutLimits());
        same("burden", six, six.make().burden(5), x -> x.burden(5));
        same("leastCapacity", six, six.make().leastCapacity(1), x -> x.leastCapacity(1));
        same("critical", six, six.make().critical(), x -> x.critical());
    }

    private static void same(String what, Project project, int want, ToIntFunction<ProjectSchedule> call) {
        ProjectSchedule x = project.make();
        // Making the six tasks takes 16 calls.
        for (int made = 16; made < CALLS; made++) {
            Check.due(what + ", call " + made, want, call.applyAsInt(x));
        }
    }

    // "No tasks; both capacities are 4."

    private static void promise1NoTasks() {
        Project.NEW.refuses("1: drop()", BAD_TASK, x -> x.drop());
        Project.NEW.refuses("1: stretch(0, 1)", BAD_TASK, x -> x.stretch(0, 1));
        Project.NEW.refuses("1: times(0, 0, 0)", BAD_TASK, x -> x.times(0, 0, 0));
        Project.NEW.refuses("1: precede(0, 1)", BAD_TASK, x -> x.precede(0, 1, true));
        Project.NEW.answers("1: shortest()", NONE, x -> x.shortest());
        Project.NEW.answers("1: the first task", 0, x -> x.task(1, 0));
        ProjectSchedule used = Project.SIX.make();
        Project.NEW.answers("1: beside a used object: drop()", BAD_TASK, x -> x.drop());
        Check.due("1: the used object stays", 5, used.drop());
    }

    private static void promise1Capacities() {
        for (int means = 0; means < 2; means++) {
            int m = means;
            Project.NEW.answers("1: capacity(" + m + ", 1)", 4, x -> x.capacity(m, 1));
            int shift = 3 * m;
            Project.NEW.answers("1: 4 of 4", 1, x -> lengthOfTwo(x, 4 << shift, 0));
            Project.NEW.answers("1: 2 and 2 of 4", 1, x -> lengthOfTwo(x, 2 << shift, 2 << shift));
            Project.NEW.answers("1: 2 and 3 of 4", 2, x -> lengthOfTwo(x, 2 << shift, 3 << shift));
        }
    }

    private static int lengthOfTwo(ProjectSchedule x, int needs, int otherNeeds) {
        x.task(1, needs);
        x.task(1, otherNeeds);
        return x.shortest();
    }

    // "duration not in 1 to 9, or an amount above 4: BAD_NUMBER; there are six: FULL."
    // "its amounts are needs & 7 and (needs >> 3) & 7"

    private static void promise2Duration() {
        for (int duration = 1; duration <= 9; duration++) {
            int d = duration;
            Project added = Project.NEW.then("task(" + d + ", 0)", x -> x.task(d, 0));
            Project.NEW.answers("2: task(" + d + ", 0)", 0, x -> x.task(d, 0));
            added.answers("2: shortest()", d, x -> x.shortest());
            added.answers("2: stretch(0, 5)", d, x -> x.stretch(0, 5));
        }
        for (int duration : Numbers.outside(1, 9)) {
            for (Project project : Project.ALL) {
                project.refuses("2: task(" + duration + ", 0)", BAD_NUMBER, x -> x.task(duration, 0));
            }
        }
    }

    private static void promise2AmountsByBits() {
        for (int needs = -130; needs <= 200; needs++) {
            tryNeeds(needs);
        }
        // Bits above the sixth, up to the sign, which >> draws along.
        for (int bit = 6; bit < 32; bit++) {
            tryNeeds(1 << bit);
            tryNeeds(1 << bit | 4 | 4 << 3);
            tryNeeds(1 << bit | 5);
            tryNeeds(1 << bit | 5 << 3);
        }
        tryNeeds(Numbers.HIGH);
    }

    private static void tryNeeds(int needs) {
        int first = Math.floorMod(needs, 8);
        int second = Math.floorMod(Math.floorDiv(needs, 8), 8);
        if (first > 4 || second > 4) {
            Project.NEW.refuses("2: task(1, " + needs + ")", BAD_NUMBER, x -> x.task(1, needs));
            return;
        }
        Project.NEW.answers("2: task(1, " + needs + ")", 0, x -> x.task(1, needs));
        hasAmount(needs, 0, first);
        hasAmount(needs, 1, second);
    }

    /** Beside a task that needs 4, it goes on at once from a capacity of 4 and its amount on. */
    private static void hasAmount(int needs, int means, int amount) {
        ProjectSchedule x = new ProjectSchedule();
        x.capacity(1 - means, 8);
        x.task(1, needs);
        x.task(1, 4 << 3 * means);
        String what = "2: needs " + needs + ", means " + means;
        x.capacity(means, 4 + amount);
        Check.due(what + ", just enough for both", 1, x.shortest());
        if (amount > 0) {
            x.capacity(means, 3 + amount);
            Check.due(what + ", one too few for both", 2, x.shortest());
        }
    }

    private static void promise2AmountAbove4() {
        for (int above = 5; above <= 7; above++) {
            int a = above;
            for (Project project : Project.ALL) {
                project.refuses("2: task(3, " + a + ")", BAD_NUMBER, x -> x.task(3, a));
                project.refuses("2: task(3, " + a + " << 3)", BAD_NUMBER, x -> x.task(3, a << 3));
                project.refuses("2: task(3, both " + a + ")", BAD_NUMBER, x -> x.task(3, a | a << 3));
            }
        }
        // The capacity is no bound of the amounts.
        Project.SCARCE.answers("2: task(3, 4) with a capacity of 2", 3, x -> x.task(3, 4));
        Project few = Project.NEW.then("capacity 8", x -> x.capacity(0, 8));
        few.refuses("2: task(3, 5) with a capacity of 8", BAD_NUMBER, x -> x.task(3, 5));
    }

    private static void promise2Six() {
        for (int count = 0; count < 6; count++) {
            Project.plain(count).answers("2: task(1, 0)", count, x -> x.task(1, 0));
        }
        Project.plain(6).refuses("2: task(1, 0)", FULL, x -> x.task(1, 0));
        for (int needs = 0; needs <= 36; needs += 9) {
            int n = needs;
            Project.SIX.refuses("2: task(9, " + n + ")", FULL, x -> x.task(9, n));
        }
        Project.SIX.answers("2: task(1, 0) after drop()", 5, x -> {
            x.drop();
            return x.task(1, 0);
        });
    }

    private static void promise2OrderOfTests() {
        Project.SIX.refuses("2: task(0, 0)", BAD_NUMBER, x -> x.task(0, 0));
        Project.SIX.refuses("2: task(10, 0)", BAD_NUMBER, x -> x.task(10, 0));
        Project.SIX.refuses("2: task(1, 5)", BAD_NUMBER, x -> x.task(1, 5));
        Project.SIX.refuses("2: task(1, 5 << 3)", BAD_NUMBER, x -> x.task(1, 5 << 3));
    }

    // "means not 0 or 1, or capacity not in 1 to 8: BAD_NUMBER."

    private static void promise3Means() {
        for (int means : Numbers.outside(0, 1)) {
            for (Project project : Project.ALL) {
                project.refuses("3: capacity(" + means + ", 3)", BAD_NUMBER, x -> x.capacity(means, 3));
                project.refuses("3: capacity(" + means + ", 9)", BAD_NUMBER, x -> x.capacity(means, 9));
            }
        }
    }

    private static void promise3Capacity() {
        for (int means = 0; means < 2; means++) {
            int m = means;
            for (int capacity : Numbers.outside(1, 8)) {
                String call = "3: capacity(" + m + ", " + capacity + ")";
                for (Project project : Project.ALL) {
                    project.refuses(call, BAD_NUMBER, x -> x.capacity(m, capacity));
                }
            }
            ProjectSchedule x = new ProjectSchedule();
            int old = 4;
            for (int capacity = 1; capacity <= 8; capacity++) {
                Check.due("3: the old capacity", old, x.capacity(m, capacity));
                old = capacity;
            }
            Check.due("3: 8 was taken", 8, x.capacity(m, 1));
            Check.due("3: the other one is still 4", 4, x.capacity(1 - m, 1));
        }
    }

    // "Not 0 <= a < b, or b not a task's number: BAD_TASK."

    private static void promise4Pairs() {
        for (int count = 0; count <= 6; count++) {
            Project project = Project.plain(count);
            for (int a = -1; a <= 6; a++) {
                for (int b = -1; b <= 7; b++) {
                    tryPair(project, a, b, 0 <= a && a < b && b <= count - 1);
                }
            }
        }
    }

    private static void tryPair(Project project, int a, int b, boolean allowed) {
        String call = "4: precede(" + a + ", " + b + ")";
        if (!allowed) {
            project.refuses(call + " on", BAD_TASK, x -> x.precede(a, b, true));
            project.refuses(call + " off", BAD_TASK, x -> x.precede(a, b, false));
            return;
        }
        project.answers(call + " off", 0, x -> x.precede(a, b, false));
        project.answers(call + " on", 0, x -> x.precede(a, b, true));
        Project set = project.then(call, x -> x.precede(a, b, true));
        set.answers(call + " on again", 1, x -> x.precede(a, b, true));
        set.answers(call + " off again", 1, x -> x.precede(a, b, false));
        // The durations are a + 1 and b + 1.
        set.answers("4: earliestEnd(" + b + ")", a + b + 2, x -> x.earliestEnd(b));
        set.answers("4: earliestEnd(" + a + ")", a + 1, x -> x.earliestEnd(a));
    }

    private static void promise4FarNumbers() {
        for (int far : Numbers.outside(-6, 6)) {
            for (int near = -1; near <= 6; near++) {
                int n = near;
                tryPair(Project.SIX, far, n, false);
                tryPair(Project.SIX, n, far, false);
            }
            tryPair(Project.SIX, far, far, false);
        }
        tryPair(Project.SIX, Numbers.LOW, Numbers.HIGH, false);
        tryPair(Project.SIX, Numbers.HIGH, Numbers.LOW, false);
    }

    // "There is no such task: BAD_TASK; release not in 0 to 20 or due not in 0 to 99: BAD_NUMBER."

    private static void promise5Task() {
        for (int count = 0; count <= 6; count++) {
            Project project = Project.plain(count);
            for (int task : Numbers.outside(0, count - 1)) {
                String call = "5: times(" + task + ", ";
                project.refuses(call + "1, 1)", BAD_TASK, x -> x.times(task, 1, 1));
                project.refuses(call + "-1, 1)", BAD_TASK, x -> x.times(task, -1, 1));
                project.refuses(call + "1, 100)", BAD_TASK, x -> x.times(task, 1, 100));
            }
            for (int task = 0; task < count; task++) {
                takesTimes(project, task, 20, 99);
                takesTimes(project, task, 1, 0);
            }
        }
    }

    private static void promise5Numbers() {
        for (int release = 0; release <= 20; release++) {
            for (int due = 0; due <= 99; due++) {
                takesTimes(Project.TWO, release % 2, release, due);
            }
        }
        for (int release : Numbers.outside(0, 20)) {
            refusesTimes(release, 5);
        }
        for (int due : Numbers.outside(0, 99)) {
            refusesTimes(0, due);
            refusesTimes(20, due);
            refusesTimes(21, due);
        }
    }

    private static void takesTimes(Project project, int task, int release, int due) {
        String call = "5: times(" + task + ", " + release + ", " + due + ")";
        project.answers(call, 0, x -> x.times(task, release, due));
        Project set = project.then(call, x -> x.times(task, release, due));
        Check.due(call + ", the release", release, Picture.release(set::make, task));
        Check.due(call + ", the due time", due, Picture.due(set::make, task));
    }

    private static void refusesTimes(int release, int due) {
        String numbers = ", " + release + ", " + due + ")";
        Project.TWO.refuses("5: times(0" + numbers, BAD_NUMBER, x -> x.times(0, release, due));
        Project.TWO.refuses("5: times(1" + numbers, BAD_NUMBER, x -> x.times(1, release, due));
        Project.SIX.refuses("5: times(5" + numbers, BAD_NUMBER, x -> x.times(5, release, due));
        Project.SCARCE.refuses("5: times(1" + numbers, BAD_NUMBER, x -> x.times(1, release, due));
    }

    // "BAD_TASK; duration not in 1 to 9: BAD_NUMBER."

    private static void promise6Task() {
        for (int count = 0; count <= 6; count++) {
            Project project = Project.plain(count);
            for (int task : Numbers.outside(0, count - 1)) {
                String call = "6: stretch(" + task + ", ";
                project.refuses(call + "9)", BAD_TASK, x -> x.stretch(task, 9));
                project.refuses(call + "0)", BAD_TASK, x -> x.stretch(task, 0));
                project.refuses(call + "10)", BAD_TASK, x -> x.stretch(task, 10));
            }
            for (int task = 0; task < count; task++) {
                int t = task;
                project.answers("6: stretch(" + t + ", 9)", t + 1, x -> x.stretch(t, 9));
            }
        }
    }

    private static void promise6Duration() {
        for (int duration : Numbers.outside(1, 9)) {
            String number = ", " + duration + ")";
            Project.TWO.refuses("6: stretch(0" + number, BAD_NUMBER, x -> x.stretch(0, duration));
            Project.TWO.refuses("6: stretch(1" + number, BAD_NUMBER, x -> x.stretch(1, duration));
            Project.SIX.refuses("6: stretch(5" + number, BAD_NUMBER, x -> x.stretch(5, duration));
            Project.SCARCE.refuses("6: stretch(1" + number, BAD_NUMBER, x -> x.stretch(1, duration));
        }
        ProjectSchedule x = Project.plain(1).make();
        int old = 1;
        for (int duration = 1; duration <= 9; duration++) {
            Check.due("6: the old duration", old, x.stretch(0, duration));
            Check.due("6: the new duration", duration, x.shortest());
            old = duration;
        }
        Check.due("6: 9 was taken", 9, x.stretch(0, 1));
        Check.due("6: 1 was taken", 1, x.shortest());
    }

    // "Takes the last task out, with its precedences. There is none: BAD_TASK."

    private static void promise7Count() {
        Project.NEW.refuses("7: drop()", BAD_TASK, x -> x.drop());
        for (int count = 1; count <= 6; count++) {
            int left = count - 1;
            Project project = Project.plain(count);
            Project after = project.then("drop()", x -> x.drop());
            project.answers("7: drop()", left, x -> x.drop());
            after.answers("7: shortest()", left == 0 ? NONE : left, x -> x.shortest());
            after.answers("7: stretch of the last", BAD_TASK, x -> x.stretch(left, 1));
            after.answers("7: task(1, 0)", left, x -> x.task(1, 0));
        }
        Project emptied = Project.SIX.then("six drops", x -> {
            for (int drops = 0; drops < 6; drops++) {
                x.drop();
            }
        });
        emptied.refuses("7: drop()", BAD_TASK, x -> x.drop());
        emptied.answers("7: shortest()", NONE, x -> x.shortest());
        emptied.answers("7: the old capacity stays", 5, x -> x.capacity(0, 1));
    }

    private static void promise7Precedences() {
        for (int count = 2; count <= 6; count++) {
            int last = count - 1;
            ProjectSchedule x = Project.plain(count).make();
            setAllPrecedences(x, count);
            x.times(last, 20, 0);
            x.drop();
            x.task(1, 0);
            Check.due("7: the new task waits for none, last " + last, 1, x.earliestEnd(last));
            for (int b = 1; b < count; b++) {
                for (int a = 0; a < b; a++) {
                    String call = "7: precede(" + a + ", " + b + ") with the last " + last;
                    Check.due(call, b == last ? 0 : 1, x.precede(a, b, false));
                }
            }
        }
    }

    private static void setAllPrecedences(ProjectSchedule x, int count) {
        for (int b = 1; b < count; b++) {
            for (int a = 0; a < b; a++) {
                x.precede(a, b, true);
            }
        }
    }
}
