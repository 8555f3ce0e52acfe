import java.util.Arrays;
import java.util.List;
import java.util.function.Consumer;
import java.util.function.Supplier;
import java.util.function.ToIntFunction;

/** A project that is made anew for each call that is tried on it. */
final class Project {
    static final Project NEW = new Project("a new object", x -> { });
    static final Project TWO = new Project("two tasks", Project::two);
    static final Project SIX = new Project("six tasks", Project::six);
    static final Project SCARCE = new Project("no feasible plan", Project::scarce);
    static final List<Project> ALL = Arrays.asList(NEW, TWO, SIX, SCARCE);

    private final String name;
    private final Consumer<ProjectSchedule> steps;
    private List<Integer> picture = null;

    Project(String name, Consumer<ProjectSchedule> steps) {
        this.name = name;
        this.steps = steps;
    }

    private static void two(ProjectSchedule x) {
        x.capacity(1, 6);
        x.task(4, 3 | 1 << 3);
        x.task(5, 2 | 4 << 3);
        x.times(0, 1, 8);
        x.times(1, 3, 6);
    }

    private static void six(ProjectSchedule x) {
        x.capacity(0, 5);
        x.capacity(1, 6);
        int[][] rows = {{3, 1, 4}, {5, 4, 0}, {2, 3, 3}, {9, 2, 1}, {1, 0, 2}, {4, 4, 4}};
        for (int[] row : rows) {
            x.task(row[0], row[1] | row[2] << 3);
        }
        x.times(0, 2, 11);
        x.times(1, 0, 7);
        x.times(3, 5, 40);
        x.times(5, 7, 23);
        x.precede(0, 2, true);
        x.precede(1, 3, true);
        x.precede(2, 5, true);
        x.precede(4, 5, true);
    }

    private static void scarce(ProjectSchedule x) {
        x.capacity(0, 2);
        x.capacity(1, 7);
        x.task(2, 2 | 1 << 3);
        x.task(6, 3 | 4 << 3);
        x.task(1, 0);
        x.times(1, 4, 9);
        x.precede(0, 2, true);
    }

    /** So many tasks with durations 1, 2, 3 and so on, which need nothing. */
    static Project plain(int count) {
        return new Project(count + " plain tasks", x -> {
            for (int task = 0; task < count; task++) {
                x.task(task + 1, 0);
            }
        });
    }

    /** One task after the other, by rows: duration, amount of means 0, amount of means 1. */
    static Project of(int[]... rows) {
        return new Project("tasks " + Arrays.deepToString(rows), x -> {
            for (int[] row : rows) {
                x.task(row[0], row[1] | row[2] << 3);
            }
        });
    }

    Project then(String step, Consumer<ProjectSchedule> more) {
        return new Project(name + ", " + step, steps.andThen(more));
    }

    ProjectSchedule make() {
        ProjectSchedule x = new ProjectSchedule();
        steps.accept(x);
        return x;
    }

    void answers(String call, int want, ToIntFunction<ProjectSchedule> made) {
        Check.due(call + " on " + name, want, made.applyAsInt(make()));
    }

    void refuses(String call, int want, ToIntFunction<ProjectSchedule> made) {
        answers(call, want, made);
        isLeftBy(call, made);
    }

    void isLeftBy(String call, ToIntFunction<ProjectSchedule> made) {
        if (picture == null) {
            picture = Picture.of(this::make);
        }
        Supplier<ProjectSchedule> after = () -> {
            ProjectSchedule x = make();
            made.applyAsInt(x);
            return x;
        };
        Check.holds(call + " on " + name + " changes nothing", picture.equals(Picture.of(after)));
    }
}
