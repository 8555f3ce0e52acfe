/**
 * The sentences of promises 8 to 14 that name a boundary case: both sides of each bound, and that
 * no call that asks changes anything, whether it has an answer or not.
 */
public final class AskingBoundsTest {
    private static final int BAD_TASK = ProjectSchedule.BAD_TASK;
    private static final int BAD_NUMBER = ProjectSchedule.BAD_NUMBER;
    private static final int NONE = ProjectSchedule.NONE;

    public static void main(String[] args) {
        askingChangesNothing();
        noneWithoutTasks();
        noneAfterTheLastDrop();
        noneByNeedOfOneTask();
        noneOnlyByNeedOfOneTask();
        promise8Longest();
        promise9BelowZero();
        promise9LikeRefusals();
        promise10And12BadTaskFirst();
        promise11PrecedencesKept();
        promise11ReleasesKept();
        promise11LimitsNotKept();
        promise12Needs();
        promise13BadNumberFirst();
        promise13OneToEight();
        promise13OtherAsItIs();
        promise14OneUnitMore();
        promise14NineUnits();
        promise14NoneOrAll();
        Check.end();
    }

    // "The calls below change nothing."

    private static void askingChangesNothing() {
        for (Project project : Project.ALL) {
            project.isLeftBy("shortest()", x -> x.shortest());
            project.isLeftBy("leastLateness()", x -> x.leastLateness());
            project.isLeftBy("withoutLimits()", x -> x.withoutLimits());
            project.isLeftBy("critical()", x -> x.critical());
            for (int number = -1; number <= 6; number++) {
                int n = number;
                project.isLeftBy("earliestEnd(" + n + ")", x -> x.earliestEnd(n));
                project.isLeftBy("burden(" + n + ")", x -> x.burden(n));
                project.isLeftBy("leastCapacity(" + n + ")", x -> x.leastCapacity(n));
            }
        }
    }

    // "They are NONE if no plan is feasible (and without tasks)."
    // "(A task that needs more than the capacity alone makes every plan infeasible.)"

    private static void noneWithoutTasks() {
        allButTasksAre(Project.NEW, NONE);
        Project other = Project.NEW.then("capacities 1 and 8", x -> {
            x.capacity(0, 1);
            x.capacity(1, 8);
        });
        allButTasksAre(other, NONE);
        Project.of(new int[] {1, 0, 0}).answers("8: with one task", 1, x -> x.shortest());
    }

    private static void noneAfterTheLastDrop() {
        for (Project project : new Project[] {Project.TWO, Project.SIX, Project.SCARCE}) {
            Project emptied = project.then("all dropped", x -> {
                for (int drops = 0; drops < 6; drops++) {
                    x.drop();
                }
            });
            allButTasksAre(emptied, NONE);
            emptied.answers("10: earliestEnd(0)", BAD_TASK, x -> x.earliestEnd(0));
            emptied.answers("12: burden(0)", BAD_TASK, x -> x.burden(0));
        }
    }

    private static void allButTasksAre(Project project, int want) {
        project.answers("8: shortest()", want, x -> x.shortest());
        project.answers("9: leastLateness()", want, x -> x.leastLateness());
        project.answers("11: withoutLimits()", want, x -> x.withoutLimits());
        project.answers("13: leastCapacity(0)", want, x -> x.leastCapacity(0));
        project.answers("13: leastCapacity(1)", want, x -> x.leastCapacity(1));
        project.answers("14: critical()", want, x -> x.critical());
    }

    /** Each task in turn, each means, each amount: the capacity just enough, and one less. */
    private static void noneByNeedOfOneTask() {
        for (int count = 1; count <= 6; count++) {
            for (int needy = 0; needy < count; needy++) {
                for (int amount = 2; amount <= 4; amount++) {
                    needOfOne(count, needy, 0, amount);
                    needOfOne(count, needy, 1, amount);
                }
            }
        }
    }

    private static void needOfOne(int count, int needy, int means, int amount) {
        Project project = new Project(count + " tasks, " + needy + " needs " + amount + " of " + means, x -> {
            for (int task = 0; task < count; task++) {
                x.task(2, task == needy ? amount << 3 * means : 0);
            }
        });
        Project enough = project.then("capacity enough", x -> x.capacity(means, amount));
        enough.answers("8: shortest()", 2, x -> x.shortest());
        enough.answers("9: leastLateness()", 2 - 99, x -> x.leastLateness());
        enough.answers("11: withoutLimits()", 2, x -> x.withoutLimits());
        enough.answers("13: leastCapacity()", amount, x -> x.leastCapacity(means));
        enough.answers("13: leastCapacity() of the other", 1, x -> x.leastCapacity(1 - means));
        enough.answers("14: critical()", count, x -> x.critical());
        Project less = project.then("capacity one less", x -> x.capacity(means, amount - 1));
        allButTasksAre(less, NONE);
        for (int task = 0; task < count; task++) {
            int t = task;
            enough.answers("10: earliestEnd(" + t + ")", 2, x -> x.earliestEnd(t));
            enough.answers("12: burden(" + t + ")", 0, x -> x.burden(t));
            less.answers("10: earliestEnd(" + t + ")", NONE, x -> x.earliestEnd(t));
            less.answers("12: burden(" + t + ")", NONE, x -> x.burden(t));
        }
        Project mended = less.then("capacity enough again", x -> x.capacity(means, amount));
        mended.answers("8: shortest()", 2, x -> x.shortest());
    }

    /** Neither many tasks together nor late releases nor missed due times stand in the way. */
    private static void noneOnlyByNeedOfOneTask() {
        Project six = new Project("six tasks that need all there is", x -> {
            x.capacity(0, 1);
            x.capacity(1, 1);
            for (int task = 0; task < 6; task++) {
                x.task(9, 1 | 1 << 3);
                x.times(task, 20, 0);
            }
            for (int task = 1; task < 6; task++) {
                x.precede(task - 1, task, true);
            }
        });
        six.answers("8: shortest()", 74, x -> x.shortest());
        six.answers("9: leastLateness()", 74, x -> x.leastLateness());
        six.answers("10: earliestEnd(5)", 74, x -> x.earliestEnd(5));
        six.answers("14: critical()", 6, x -> x.critical());
        Project needy = six.then("one dropped for a needy one", x -> {
            x.drop();
            x.task(1, 2);
        });
        allButTasksAre(needy, NONE);
        Project without = needy.then("the needy one dropped", x -> x.drop());
        without.answers("8: shortest()", 65, x -> x.shortest());
    }

    private static void promise8Longest() {
        Project six = new Project("the longest project", x -> {
            for (int task = 0; task < 6; task++) {
                x.task(9, 4 | 4 << 3);
                x.times(task, 20, 0);
            }
        });
        six.answers("8: shortest()", 74, x -> x.shortest());
        six.answers("9: leastLateness()", 74, x -> x.leastLateness());
        six.answers("10: earliestEnd(5)", 29, x -> x.earliestEnd(5));
        six.answers("11: withoutLimits()", 29, x -> x.withoutLimits());
        six.answers("12: burden(3)", 9, x -> x.burden(3));
        six.answers("13: leastCapacity(0)", 4, x -> x.leastCapacity(0));
        six.answers("14: critical()", 6, x -> x.critical());
        Project two = six.then("two at a time", x -> {
            x.capacity(0, 8);
            x.capacity(1, 8);
        });
        two.answers("8: shortest()", 47, x -> x.shortest());
        two.answers("13: leastCapacity(1)", 8, x -> x.leastCapacity(1));
        two.answers("14: critical()", 6, x -> x.critical());
        Project chain = two.then("in a chain", x -> {
            for (int task = 1; task < 6; task++) {
                x.precede(task - 1, task, true);
            }
        });
        chain.answers("8: shortest()", 74, x -> x.shortest());
        chain.answers("10: earliestEnd(5)", 74, x -> x.earliestEnd(5));
        chain.answers("11: withoutLimits()", 74, x -> x.withoutLimits());
    }

    // "(may be below 0)"

    private static void promise9BelowZero() {
        lateness(1, 0, 99, -98);
        lateness(9, 20, 99, -70);
        lateness(3, 2, 6, -1);
        lateness(3, 2, 5, 0);
        lateness(3, 2, 4, 1);
        lateness(1, 0, 0, 1);
        lateness(9, 20, 0, 29);
        // The greatest of the tasks, below 0 too: not the sum, not the least, not 0.
        Project two = Project.of(new int[] {1, 0, 0}, new int[] {1, 0, 0});
        Project due = two.then("due 90 and 60", x -> {
            x.times(0, 0, 90);
            x.times(1, 0, 60);
        });
        due.answers("9: leastLateness()", -59, x -> x.leastLateness());
    }

    private static void promise9LikeRefusals() {
        for (int late = -99 + 1; late <= 29; late++) {
            int end = late > 0 ? late : 1;
            int duration = end > 9 ? 9 : end;
            lateness(duration, end - duration, end - late, late);
        }
    }

    private static void lateness(int duration, int release, int due, int want) {
        Project one = Project.of(new int[] {duration, 0, 0});
        Project set = one.then("times(0, " + release + ", " + due + ")", x -> x.times(0, release, due));
        set.answers("9: leastLateness()", want, x -> x.leastLateness());
    }

    // "BAD_TASK, tested first"

    private static void promise10And12BadTaskFirst() {
        for (int count = 0; count <= 6; count++) {
            Project plain = Project.plain(count);
            noSuchTask(plain, count);
            for (int task = 0; task < count; task++) {
                int t = task;
                plain.answers("10: earliestEnd(" + t + ")", t + 1, x -> x.earliestEnd(t));
                plain.answers("12: burden(" + t + ")", 0, x -> x.burden(t));
            }
        }
        noSuchTask(Project.SCARCE, 3);
        for (int task = 0; task < 3; task++) {
            int t = task;
            Project.SCARCE.answers("10: earliestEnd(" + t + ")", NONE, x -> x.earliestEnd(t));
            Project.SCARCE.answers("12: burden(" + t + ")", NONE, x -> x.burden(t));
        }
        noSuchTask(Project.SIX.then("drop()", x -> x.drop()), 5);
    }

    private static void noSuchTask(Project project, int count) {
        for (int task : Numbers.outside(0, count - 1)) {
            project.refuses("10: earliestEnd(" + task + ")", BAD_TASK, x -> x.earliestEnd(task));
            project.refuses("12: burden(" + task + ")", BAD_TASK, x -> x.burden(task));
        }
    }

    // "(precedences and releases kept)"

    private static void promise11PrecedencesKept() {
        Project three = Project.of(new int[] {3, 4, 4}, new int[] {5, 4, 4}, new int[] {4, 4, 4});
        three.answers("11: all at once", 5, x -> x.withoutLimits());
        three.answers("11: 0 before 1", 8, x -> withoutLimits(x, 0, 1));
        three.answers("11: 0 before 2", 7, x -> withoutLimits(x, 0, 2));
        three.answers("11: 1 before 2", 9, x -> withoutLimits(x, 1, 2));
        Project chain = three.then("a chain", x -> {
            x.precede(0, 1, true);
            x.precede(1, 2, true);
        });
        chain.answers("11: the chain", 12, x -> x.withoutLimits());
        Project cut = chain.then("its first link off", x -> x.precede(0, 1, false));
        cut.answers("11: a shorter chain", 9, x -> x.withoutLimits());
    }

    private static int withoutLimits(ProjectSchedule x, int a, int b) {
        x.precede(a, b, true);
        return x.withoutLimits();
    }

    /** Task 1 may begin at 3: a release of 2 or 3 does not count behind that, one of 4 does. */
    private static void promise11ReleasesKept() {
        Project two = Project.of(new int[] {3, 4, 0}, new int[] {4, 4, 0});
        Project chain = two.then("0 before 1", x -> x.precede(0, 1, true));
        int[] due = {7, 7, 7, 7, 8, 9};
        for (int release = 0; release < due.length; release++) {
            int r = release;
            Project set = chain.then("release of 1 is " + r, x -> x.times(1, r, 0));
            set.answers("11: withoutLimits()", due[r], x -> x.withoutLimits());
            Project first = chain.then("release of 0 is " + r, x -> x.times(0, r, 0));
            first.answers("11: withoutLimits()", 7 + r, x -> x.withoutLimits());
        }
        Project last = two.then("release of 0 is 20", x -> x.times(0, 20, 0));
        last.answers("11: withoutLimits()", 23, x -> x.withoutLimits());
    }

    private static void promise11LimitsNotKept() {
        Project six = new Project("six tasks that need 4 of both", x -> {
            for (int task = 0; task < 6; task++) {
                x.task(task + 2, 4 | 4 << 3);
            }
        });
        for (int capacity = 1; capacity <= 8; capacity++) {
            int c = capacity;
            for (int means = 0; means < 2; means++) {
                int m = means;
                Project set = six.then("capacity " + c + " of " + m, x -> x.capacity(m, c));
                set.answers("11: withoutLimits()", c < 4 ? NONE : 7, x -> x.withoutLimits());
            }
        }
        six.answers("8: with the limits", 27, x -> x.shortest());
    }

    private static void promise12Needs() {
        Project both = Project.of(new int[] {5, 2, 2}, new int[] {3, 2, 2});
        both.answers("12: there is room for both", 0, x -> x.burden(1));
        Project first = Project.of(new int[] {5, 2, 2}, new int[] {3, 3, 2});
        first.answers("12: one too many of means 0", 3, x -> x.burden(1));
        first.answers("12: by the other one", 3, x -> x.burden(0));
        Project second = Project.of(new int[] {5, 2, 2}, new int[] {3, 2, 3});
        second.answers("12: one too many of means 1", 3, x -> x.burden(1));
        Project either = Project.of(new int[] {5, 4, 0}, new int[] {3, 1, 1}, new int[] {2, 0, 4});
        either.answers("12: of either means", 3, x -> x.burden(1));
        Project chain = first.then("0 before 1", x -> x.precede(0, 1, true));
        chain.answers("12: a precedence stays", 0, x -> x.burden(1));
        Project late = first.then("release of 1 is 4", x -> x.times(1, 4, 0));
        late.answers("12: a release stays", 1, x -> x.burden(1));
    }

    // "means not 0 or 1: BAD_NUMBER, tested first"

    private static void promise13BadNumberFirst() {
        for (Project project : Project.ALL) {
            for (int means : Numbers.outside(0, 1)) {
                project.refuses("13: leastCapacity(" + means + ")", BAD_NUMBER, x -> x.leastCapacity(means));
            }
        }
        for (int means = 0; means < 2; means++) {
            int m = means;
            Project.NEW.answers("13: leastCapacity(" + m + ")", NONE, x -> x.leastCapacity(m));
            Project.SCARCE.answers("13: leastCapacity(" + m + ")", NONE, x -> x.leastCapacity(m));
            Project.plain(1).answers("13: leastCapacity(" + m + ")", 1, x -> x.leastCapacity(m));
        }
    }

    // "The least capacity of a means, 1 to 8"

    /** Two tasks at once need their sum, which is the least capacity if there is so much. */
    private static void promise13OneToEight() {
        for (int one = 0; one <= 4; one++) {
            for (int other = 0; other <= 4; other++) {
                for (int capacity = 1; capacity <= 8; capacity++) {
                    leastOfTwo(one, other, capacity, 0);
                    leastOfTwo(one, other, capacity, 1);
                }
            }
        }
    }

    private static void leastOfTwo(int one, int other, int capacity, int means) {
        String name = "amounts " + one + " and " + other + ", capacity " + capacity;
        Project two = new Project(name, x -> {
            x.task(2, one << 3 * means);
            x.task(2, other << 3 * means);
            x.capacity(means, capacity);
        });
        int greater = one > other ? one : other;
        int least = one + other <= capacity ? one + other : greater;
        int want = greater > capacity ? NONE : least < 1 ? 1 : least;
        two.answers("13: leastCapacity(" + means + ")", want, x -> x.leastCapacity(means));
        two.answers("13: then capacity(" + means + ", 1)", capacity, x -> {
            x.leastCapacity(means);
            return x.capacity(means, 1);
        });
    }

    private static void promise13OtherAsItIs() {
        Project two = Project.of(new int[] {3, 2, 3}, new int[] {3, 3, 3});
        two.answers("13: one after the other, as means 1 is scarce", 3, x -> x.leastCapacity(0));
        Project wide = two.then("6 of means 1", x -> x.capacity(1, 6));
        wide.answers("13: one after the other, as means 0 is scarce", 3, x -> x.leastCapacity(1));
        Project wider = wide.then("8 of means 0", x -> x.capacity(0, 8));
        wider.answers("13: at once, means 0", 5, x -> x.leastCapacity(0));
        wider.answers("13: at once, means 1", 6, x -> x.leastCapacity(1));
    }

    // "if they took one time unit more"

    /** The first task may take as long as the second: with room of 1 it is not critical. */
    private static void promise14OneUnitMore() {
        int[][] rows = {{5, 5, 2}, {4, 5, 1}, {3, 5, 1}, {8, 9, 1}, {9, 9, 2}, {1, 1, 2}, {1, 2, 1}};
        for (int[] row : rows) {
            Project two = Project.of(new int[] {row[0], 0, 0}, new int[] {row[1], 0, 0});
            two.answers("14: critical()", row[2], x -> x.critical());
        }
        Project chain = Project.of(new int[] {2, 0, 0}, new int[] {3, 0, 0}, new int[] {6, 0, 0});
        Project linked = chain.then("0 before 1", x -> x.precede(0, 1, true));
        linked.answers("14: room of 1 for the first two", 1, x -> x.critical());
        linked.then("one of them longer", x -> x.stretch(1, 4))
                .answers("14: no room", 3, x -> x.critical());
        linked.then("released one later", x -> x.times(1, 3, 99))
                .answers("14: room of 1 ahead of the release", 2, x -> x.critical());
    }

    private static void promise14NineUnits() {
        Project one = Project.of(new int[] {9, 0, 0});
        one.answers("14: a task that takes 9", 1, x -> x.critical());
        one.isLeftBy("14: critical()", x -> x.critical());
        Project beside = Project.of(new int[] {9, 0, 0}, new int[] {1, 0, 0});
        Project room = beside.then("release of 1 is 9", x -> x.times(1, 9, 99));
        room.answers("14: 9 with room of 1", 1, x -> x.critical());
        Project none = beside.then("release of 1 is 8", x -> x.times(1, 8, 99));
        none.answers("14: 9 with no room", 2, x -> x.critical());
    }

    private static void promise14NoneOrAll() {
        int[] half = {4, 2, 0};
        Project three = Project.of(half, half, half);
        three.answers("14: each may be the one alone, with room", 0, x -> x.critical());
        Project four = Project.of(half, half, half, half);
        four.answers("14: two and two leave no room", 4, x -> x.critical());
        Project nines = Project.of(new int[] {9, 0, 2}, new int[] {9, 0, 2}, new int[] {9, 0, 2});
        nines.answers("14: each may be the one alone, and take 10", 0, x -> x.critical());
        Project.plain(6).answers("14: the longest of six", 1, x -> x.critical());
    }
}
