import java.util.ArrayList;
import java.util.List;
import java.util.function.Supplier;

/**
 * What calls can tell of an object, as a row of numbers, so that a change shows as another row.
 * All is read as it is but the amounts, which no call tells: they show only in lengths of plans.
 * Reading changes the object, so each reading takes one that was made anew.
 */
final class Picture {
    // One more than there can be, so that a fault in the class can't keep a reading from ending.
    private static final int ENOUGH = 7;

    private Picture() {
    }

    static List<Integer> of(Supplier<ProjectSchedule> made) {
        List<Integer> seen = new ArrayList<>();
        int count = count(made.get());
        seen.add(count);
        answers(made.get(), seen);
        numbers(made.get(), seen);
        for (int task = 0; task < count; task++) {
            seen.add(release(made, task));
            seen.add(due(made, task));
        }
        lengthsByCapacity(made.get(), seen);
        roomLeft(made.get(), seen);
        return seen;
    }

    private static int count(ProjectSchedule x) {
        int count = 0;
        while (count < ENOUGH && x.drop() != ProjectSchedule.BAD_TASK) {
            count++;
        }
        return count;
    }

    private static void answers(ProjectSchedule x, List<Integer> seen) {
        seen.add(x.shortest());
        seen.add(x.leastLateness());
        seen.add(x.withoutLimits());
        seen.add(x.critical());
        seen.add(x.leastCapacity(0));
        seen.add(x.leastCapacity(1));
        for (int task = 0; task < ENOUGH; task++) {
            seen.add(x.earliestEnd(task));
            seen.add(x.burden(task));
        }
    }

    private static void numbers(ProjectSchedule x, List<Integer> seen) {
        seen.add(x.capacity(0, 1));
        seen.add(x.capacity(1, 1));
        for (int task = 0; task < ENOUGH; task++) {
            seen.add(x.stretch(task, 1));
        }
        takePrecedencesAway(x, seen);
    }

    private static void takePrecedencesAway(ProjectSchedule x, List<Integer> seen) {
        for (int a = 0; a < ENOUGH; a++) {
            for (int b = a + 1; b < ENOUGH; b++) {
                seen.add(x.precede(a, b, false));
            }
        }
    }

    static int release(Supplier<ProjectSchedule> made, int task) {
        return alone(made, task).earliestEnd(task) - 9;
    }

    static int due(Supplier<ProjectSchedule> made, int task) {
        ProjectSchedule x = alone(made, task);
        return x.earliestEnd(task) - x.leastLateness();
    }

    /** The others end by 5, due at 99: beside the 9 units of this task they never count. */
    private static ProjectSchedule alone(Supplier<ProjectSchedule> made, int task) {
        ProjectSchedule x = made.get();
        x.capacity(0, 8);
        x.capacity(1, 8);
        takePrecedencesAway(x, new ArrayList<>());
        for (int other = 0; other < ENOUGH; other++) {
            if (other != task) {
                x.stretch(other, 1);
                x.times(other, 0, 99);
            }
        }
        x.stretch(task, 9);
        return x;
    }

    /** The amounts show in how much the tasks get into each other's way. */
    private static void lengthsByCapacity(ProjectSchedule x, List<Integer> seen) {
        for (int capacity = 1; capacity <= 8; capacity++) {
            x.capacity(0, capacity);
            x.capacity(1, 8);
            seen.add(x.shortest());
            x.capacity(0, 8);
            x.capacity(1, capacity);
            seen.add(x.shortest());
        }
    }

    /** What is left of a refused call may show only in tasks that come later. */
    private static void roomLeft(ProjectSchedule x, List<Integer> seen) {
        x.capacity(0, 8);
        x.capacity(1, 8);
        for (int added = 0; added < ENOUGH; added++) {
            seen.add(x.task(1, 0));
        }
        seen.add(x.leastLateness());
        for (int task = 0; task < ENOUGH; task++) {
            seen.add(x.earliestEnd(task));
        }
        takePrecedencesAway(x, seen);
    }
}
