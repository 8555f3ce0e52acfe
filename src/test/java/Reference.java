import java.util.ArrayList;
import java.util.Comparator;
import java.util.List;

/**
 * The document once more, slow and plain: a least value is found by trying one value after the
 * other, and for each of them all starts of all tasks with which none ends too late for it.
 */
final class Reference {
    private static final int BAD_TASK = -1;
    private static final int BAD_NUMBER = -2;
    private static final int FULL = -3;
    private static final int NONE = -1000;

    private static final class Task {
        private int duration;
        private final int[] amounts;
        private int release = 0;
        private int due = 99;
        private final List<Task> before = new ArrayList<>();
        private int start;
        private int deadline;

        private Task(int duration, int first, int second) {
            this.duration = duration;
            this.amounts = new int[] {first, second};
        }
    }

    private final List<Task> tasks = new ArrayList<>();
    private final int[] capacities = {4, 4};

    int task(int duration, int needs) {
        int first = needs & 7;
        int second = (needs >> 3) & 7;
        if (duration < 1 || duration > 9 || first > 4 || second > 4) {
            return BAD_NUMBER;
        }
        if (tasks.size() == 6) {
            return FULL;
        }
        tasks.add(new Task(duration, first, second));
        return tasks.size() - 1;
    }

    int capacity(int means, int capacity) {
        if (means != 0 && means != 1 || capacity < 1 || capacity > 8) {
            return BAD_NUMBER;
        }
        int old = capacities[means];
        capacities[means] = capacity;
        return old;
    }

    int precede(int a, int b, boolean on) {
        if (!(0 <= a && a < b) || b >= tasks.size()) {
            return BAD_TASK;
        }
        boolean was = tasks.get(b).before.remove(tasks.get(a));
        if (on) {
            tasks.get(b).before.add(tasks.get(a));
        }
        return was ? 1 : 0;
    }

    int times(int task, int release, int due) {
        if (unknown(task)) {
            return BAD_TASK;
        }
        if (release < 0 || release > 20 || due < 0 || due > 99) {
            return BAD_NUMBER;
        }
        tasks.get(task).release = release;
        tasks.get(task).due = due;
        return 0;
    }

    int stretch(int task, int duration) {
        if (unknown(task)) {
            return BAD_TASK;
        }
        if (duration < 1 || duration > 9) {
            return BAD_NUMBER;
        }
        int old = tasks.get(task).duration;
        tasks.get(task).duration = duration;
        return old;
    }

    int drop() {
        if (tasks.isEmpty()) {
            return BAD_TASK;
        }
        tasks.remove(tasks.size() - 1);
        return tasks.size();
    }

    int shortest() {
        for (int length = 1; length <= horizon(); length++) {
            for (Task task : tasks) {
                task.deadline = length;
            }
            if (feasible()) {
                return length;
            }
        }
        return NONE;
    }

    int leastLateness() {
        for (int late = -99; late <= horizon(); late++) {
            for (Task task : tasks) {
                task.deadline = Math.min(task.due + late, horizon());
            }
            if (feasible()) {
                return late;
            }
        }
        return NONE;
    }

    int earliestEnd(int number) {
        if (unknown(number)) {
            return BAD_TASK;
        }
        for (int end = 1; end <= horizon(); end++) {
            for (Task task : tasks) {
                task.deadline = horizon();
            }
            tasks.get(number).deadline = end;
            if (feasible()) {
                return end;
            }
        }
        return NONE;
    }

    int withoutLimits() {
        if (shortest() == NONE) {
            return NONE;
        }
        int first = capacities[0];
        int second = capacities[1];
        capacities[0] = 1000;
        capacities[1] = 1000;
        int length = shortest();
        capacities[0] = first;
        capacities[1] = second;
        return length;
    }

    int burden(int number) {
        if (unknown(number)) {
            return BAD_TASK;
        }
        int now = shortest();
        if (now == NONE) {
            return NONE;
        }
        int[] amounts = tasks.get(number).amounts;
        int[] kept = amounts.clone();
        amounts[0] = 0;
        amounts[1] = 0;
        int less = now - shortest();
        amounts[0] = kept[0];
        amounts[1] = kept[1];
        return less;
    }

    int leastCapacity(int means) {
        if (means != 0 && means != 1) {
            return BAD_NUMBER;
        }
        int now = shortest();
        if (now == NONE) {
            return NONE;
        }
        int kept = capacities[means];
        capacities[means] = 1;
        while (shortest() != now) {
            capacities[means]++;
        }
        int least = capacities[means];
        capacities[means] = kept;
        return least;
    }

    int critical() {
        int now = shortest();
        if (now == NONE) {
            return NONE;
        }
        int count = 0;
        for (Task task : tasks) {
            task.duration++;
            if (shortest() > now) {
                count++;
            }
            task.duration--;
        }
        return count;
    }

    private boolean unknown(int task) {
        return task < 0 || task >= tasks.size();
    }

    /** No least value asks for a later end: one task after the other would do behind all releases. */
    private int horizon() {
        int latest = 0;
        int sum = 0;
        for (Task task : tasks) {
            latest = Math.max(latest, task.release);
            sum += task.duration;
        }
        return latest + sum;
    }

    private boolean feasible() {
        for (Task task : tasks) {
            if (task.amounts[0] > capacities[0] || task.amounts[1] > capacities[1]) {
                return false;
            }
        }
        if (tasks.isEmpty()) {
            return false;
        }
        leaveTimeForThoseBehind();
        List<Task> urgentFirst = new ArrayList<>(tasks);
        urgentFirst.sort(Comparator.comparingInt(task -> task.deadline));
        return feasibleFrom(0, urgentFirst, new int[2][horizon() + 1]);
    }

    /** A task has to end before its deadline if one that waits for it would be late otherwise. */
    private void leaveTimeForThoseBehind() {
        for (int number = tasks.size() - 1; number > 0; number--) {
            Task task = tasks.get(number);
            for (Task before : task.before) {
                before.deadline = Math.min(before.deadline, task.deadline - task.duration);
            }
        }
    }

    /** By their deadlines tasks come behind all that they wait for. */
    private boolean feasibleFrom(int place, List<Task> row, int[][] used) {
        if (place == row.size()) {
            return true;
        }
        Task task = row.get(place);
        int from = task.release;
        for (Task before : task.before) {
            from = Math.max(from, before.start + before.duration);
        }
        for (int start = from; start + task.duration <= task.deadline; start++) {
            task.start = start;
            add(task, start, used, 1);
            boolean found = within(task, start, used) && feasibleFrom(place + 1, row, used);
            add(task, start, used, -1);
            if (found) {
                return true;
            }
        }
        return false;
    }

    private boolean within(Task task, int start, int[][] used) {
        for (int time = start; time < start + task.duration; time++) {
            if (used[0][time] > capacities[0] || used[1][time] > capacities[1]) {
                return false;
            }
        }
        return true;
    }

    private void add(Task task, int start, int[][] used, int sign) {
        for (int time = start; time < start + task.duration; time++) {
            used[0][time] += sign * task.amounts[0];
            used[1][time] += sign * task.amounts[1];
        }
    }
}
