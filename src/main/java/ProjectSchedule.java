/** Small projects with scarce means; ../shared/DOC.md says what every call answers. */
public final class ProjectSchedule {
    public static final int BAD_TASK = -1;
    public static final int BAD_NUMBER = -2;
    public static final int FULL = -3;
    public static final int NONE = -1000;

    private static final int MOST_TASKS = 6;
    private static final int MEANS = 2;
    private static final int LONGEST_DURATION = 9;
    private static final int GREATEST_AMOUNT = 4;
    private static final int GREATEST_CAPACITY = 8;
    private static final int FIRST_CAPACITY = 4;
    private static final int LATEST_RELEASE = 20;
    private static final int LATEST_DUE = 99;

    // When all releases are past and all tasks placed before have ended, a task fits in any case,
    // so none ends later than this; the 1 is for the unit more that critical() tries.
    private static final int HORIZON = LATEST_RELEASE + MOST_TASKS * LONGEST_DURATION + 1;

    private static final int PAIRS = MOST_TASKS * MOST_TASKS;
    private static final int AMOUNTS = MEANS * MOST_TASKS;
    private static final int USES = MEANS * HORIZON;

    // No task ends at 0, as every duration is 1 or more.
    private static final int NOT_PLACED = 0;
    private static final int NOT_READY = -1;
    private static final int FAR = 1000000;

    private int taskCount = 0;
    private final int[] duration = new int[MOST_TASKS];
    private final int[] release = new int[MOST_TASKS];
    private final int[] due = new int[MOST_TASKS];
    private final int[] amount = new int[AMOUNTS];
    private final int[] capacityOf = new int[MEANS];
    private final boolean[] isBefore = new boolean[PAIRS];

    // The plan that is being made.
    private final int[] order = new int[MOST_TASKS];
    private final int[] end = new int[MOST_TASKS];
    private final int[] used = new int[USES];

    // The least values over the plans made so far.
    private int leastLength = FAR;
    private int leastLate = FAR;
    private final int[] leastEnd = new int[MOST_TASKS];

    public ProjectSchedule() {
        for (int means = 0; means < MEANS; means++) {
            capacityOf[means] = FIRST_CAPACITY;
        }
    }

    public int task(int duration, int needs) {
        int first = needs & 7;
        int second = (needs >> 3) & 7;
        if (!isDuration(duration) || first > GREATEST_AMOUNT || second > GREATEST_AMOUNT) {
            return BAD_NUMBER;
        }
        if (taskCount >= MOST_TASKS) {
            return FULL;
        }
        int added = taskCount;
        this.duration[added] = duration;
        release[added] = 0;
        due[added] = LATEST_DUE;
        amount[added] = first;
        amount[MOST_TASKS + added] = second;
        taskCount = added + 1;
        return added;
    }

    public int capacity(int means, int capacity) {
        if (!isMeans(means) || capacity < 1 || capacity > GREATEST_CAPACITY) {
            return BAD_NUMBER;
        }
        int old = capacityOf[means];
        capacityOf[means] = capacity;
        return old;
    }

    public int precede(int a, int b, boolean on) {
        if (a < 0 || a >= b || !isTask(b)) {
            return BAD_TASK;
        }
        int pair = a * MOST_TASKS + b;
        boolean was = isBefore[pair];
        isBefore[pair] = on;
        return was ? 1 : 0;
    }

    public int times(int task, int release, int due) {
        if (!isTask(task)) {
            return BAD_TASK;
        }
        if (release < 0 || release > LATEST_RELEASE || due < 0 || due > LATEST_DUE) {
            return BAD_NUMBER;
        }
        this.release[task] = release;
        this.due[task] = due;
        return 0;
    }

    public int stretch(int task, int duration) {
        if (!isTask(task)) {
            return BAD_TASK;
        }
        if (!isDuration(duration)) {
            return BAD_NUMBER;
        }
        int old = this.duration[task];
        this.duration[task] = duration;
        return old;
    }

    public int drop() {
        if (taskCount < 1) {
            return BAD_TASK;
        }
        int last = taskCount - 1;
        for (int before = 0; before < last; before++) {
            isBefore[before * MOST_TASKS + last] = false;
        }
        taskCount = last;
        return last;
    }

    public int shortest() {
        return leastLengthOfPlans();
    }

    public int leastLateness() {
        if (!someFeasiblePlan()) {
            return NONE;
        }
        tryAllOrders();
        return leastLate;
    }

    public int earliestEnd(int task) {
        if (!isTask(task)) {
            return BAD_TASK;
        }
        if (!someFeasiblePlan()) {
            return NONE;
        }
        tryAllOrders();
        return leastEnd[task];
    }

    public int withoutLimits() {
        if (!someFeasiblePlan()) {
            return NONE;
        }
        // Precedences lead to greater numbers, so the ends a task waits for are there in its turn.
        for (int task = 0; task < taskCount; task++) {
            int ready = readyTime(task);
            end[task] = ready + duration[task];
        }
        return lengthOfPlan();
    }

    public int burden(int task) {
        if (!isTask(task)) {
            return BAD_TASK;
        }
        if (!someFeasiblePlan()) {
            return NONE;
        }
        int now = leastLengthOfPlans();
        int first = amount[task];
        int second = amount[MOST_TASKS + task];
        amount[task] = 0;
        amount[MOST_TASKS + task] = 0;
        int free = leastLengthOfPlans();
        amount[task] = first;
        amount[MOST_TASKS + task] = second;
        return now - free;
    }

    public int leastCapacity(int means) {
        if (!isMeans(means)) {
            return BAD_NUMBER;
        }
        if (!someFeasiblePlan()) {
            return NONE;
        }
        int now = leastLengthOfPlans();
        int kept = capacityOf[means];
        int least = kept;
        for (int tried = 1; tried < kept; tried++) {
            capacityOf[means] = tried;
            int length = leastLengthOfPlans();
            if (length == now) {
                least = tried;
                break;
            }
        }
        capacityOf[means] = kept;
        return least;
    }

    public int critical() {
        if (!someFeasiblePlan()) {
            return NONE;
        }
        int now = leastLengthOfPlans();
        int count = 0;
        for (int task = 0; task < taskCount; task++) {
            int kept = duration[task];
            duration[task] = kept + 1;
            int longer = leastLengthOfPlans();
            duration[task] = kept;
            if (longer > now) {
                count++;
            }
        }
        return count;
    }

    private boolean isTask(int task) {
        return task >= 0 && task < taskCount;
    }

    private boolean isMeans(int means) {
        return means >= 0 && means < MEANS;
    }

    private boolean isDuration(int duration) {
        return duration >= 1 && duration <= LONGEST_DURATION;
    }

    // Tasks one after the other, by number, are a feasible plan unless one alone needs too much.
    private boolean someFeasiblePlan() {
        for (int task = 0; task < taskCount; task++) {
            for (int means = 0; means < MEANS; means++) {
                if (amount[means * MOST_TASKS + task] > capacityOf[means]) {
                    return false;
                }
            }
        }
        return taskCount > 0;
    }

    private int leastLengthOfPlans() {
        if (!someFeasiblePlan()) {
            return NONE;
        }
        tryAllOrders();
        return leastLength;
    }

    // A feasible plan in which no task alone can begin earlier comes out again if its tasks are
    // placed by their starts, each as early as it fits. Every feasible plan can be moved to such
    // a one without a later end, so the least values over all orders are those over all plans.
    private void tryAllOrders() {
        leastLength = FAR;
        leastLate = FAR;
        int orders = 1;
        for (int task = 0; task < taskCount; task++) {
            leastEnd[task] = FAR;
            orders *= task + 1;
        }
        for (int number = 0; number < orders; number++) {
            readOrder(number);
            if (placeInOrder()) {
                noteLeast();
            }
        }
    }

    // The digits of the number, to bases that grow by one, say where each task goes in, so that
    // every number below the factorial of the count gives another order.
    private void readOrder(int number) {
        int rest = number;
        for (int task = 0; task < taskCount; task++) {
            int base = task + 1;
            int place = rest % base;
            rest /= base;
            order[task] = order[place];
            order[place] = task;
        }
    }

    // False if the order has a task ahead of one that must end before it.
    private boolean placeInOrder() {
        clearPlan();
        for (int place = 0; place < taskCount; place++) {
            int task = order[place];
            int ready = readyTime(task);
            if (ready == NOT_READY) {
                return false;
            }
            int start = earliestStart(task, ready);
            end[task] = start + duration[task];
            takeMeans(task, start);
        }
        return true;
    }

    private void clearPlan() {
        for (int task = 0; task < taskCount; task++) {
            end[task] = NOT_PLACED;
        }
        for (int i = 0; i < USES; i++) {
            used[i] = 0;
        }
    }

    private int readyTime(int task) {
        int ready = release[task];
        for (int before = 0; before < task; before++) {
            if (isBefore[before * MOST_TASKS + task]) {
                if (end[before] == NOT_PLACED) {
                    return NOT_READY;
                }
                if (end[before] > ready) {
                    ready = end[before];
                }
            }
        }
        return ready;
    }

    private int earliestStart(int task, int ready) {
        int latest = HORIZON - duration[task];
        for (int start = ready; start < latest; start++) {
            if (fits(task, start)) {
                return start;
            }
        }
        return latest;
    }

    private boolean fits(int task, int start) {
        for (int means = 0; means < MEANS; means++) {
            int free = capacityOf[means] - amount[means * MOST_TASKS + task];
            int from = means * HORIZON + start;
            int until = from + duration[task];
            for (int i = from; i < until; i++) {
                if (used[i] > free) {
                    return false;
                }
            }
        }
        return true;
    }

    private void takeMeans(int task, int start) {
        for (int means = 0; means < MEANS; means++) {
            int from = means * HORIZON + start;
            int until = from + duration[task];
            for (int i = from; i < until; i++) {
                used[i] += amount[means * MOST_TASKS + task];
            }
        }
    }

    private void noteLeast() {
        int length = lengthOfPlan();
        if (length < leastLength) {
            leastLength = length;
        }
        int late = latenessOfPlan();
        if (late < leastLate) {
            leastLate = late;
        }
        for (int task = 0; task < taskCount; task++) {
            if (end[task] < leastEnd[task]) {
                leastEnd[task] = end[task];
            }
        }
    }

    private int lengthOfPlan() {
        int length = 0;
        for (int task = 0; task < taskCount; task++) {
            if (end[task] > length) {
                length = end[task];
            }
        }
        return length;
    }

    private int latenessOfPlan() {
        int late = -FAR;
        for (int task = 0; task < taskCount; task++) {
            int over = end[task] - due[task];
            if (over > late) {
                late = over;
            }
        }
        return late;
    }
}
