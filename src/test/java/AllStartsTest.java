/** Promises 1 to 14 in long mixed runs, each answer against that of the Reference. */
public final class AllStartsTest {
    private static final int FEW_CALLS = 120;
    private static final int MOST_CALLS = 512;

    private static final Draw DRAW = new Draw(20261115L);

    public static void main(String[] args) {
        for (int run = 0; run < 150; run++) {
            mixedRun("few tasks, run " + run, FEW_CALLS, 3, 9, 20);
        }
        for (int run = 0; run < 150; run++) {
            mixedRun("many short tasks, run " + run, FEW_CALLS, 6, 3, 3);
        }
        for (int run = 0; run < 60; run++) {
            mixedRun("many tasks, run " + run, FEW_CALLS, 6, 9, 20);
        }
        for (int run = 0; run < 20; run++) {
            mixedRun("as many calls as are promised, run " + run, MOST_CALLS, 4, 9, 20);
        }
        Check.end();
    }

    private static int needs() {
        if (DRAW.upTo(30) == 0) {
            return DRAW.between(-70, 140);
        }
        return DRAW.upTo(4) | DRAW.upTo(4) << 3;
    }

    /** A number in the bounds, and now and then one just outside. */
    private static int near(int least, int greatest) {
        if (DRAW.upTo(30) == 0) {
            return DRAW.upTo(1) == 0 ? least - 1 : greatest + 1;
        }
        return DRAW.between(least, greatest);
    }

    private static int duration(int longest) {
        if (DRAW.upTo(40) == 0) {
            return DRAW.upTo(1) * 10;
        }
        return DRAW.between(1, longest);
    }

    private static int release(int latest) {
        if (DRAW.upTo(40) == 0) {
            return DRAW.upTo(1) * 22 - 1;
        }
        return DRAW.upTo(latest);
    }

    private static void mixedRun(String name, int calls, int most, int longest, int latest) {
        ProjectSchedule x = new ProjectSchedule();
        Reference y = new Reference();
        int tasks = 0;
        for (int call = 0; call < calls; call++) {
            String what = name + ", call " + call;
            if (tasks < most && DRAW.upTo(2) == 0) {
                int duration = duration(longest);
                int needs = needs();
                Check.due(what + " task", y.task(duration, needs), x.task(duration, needs));
            } else if (DRAW.upTo(1) == 0) {
                change(what, x, y, longest, latest);
            } else {
                ask(what, x, y);
            }
            tasks = count(y);
        }
    }

    private static int count(Reference y) {
        int count = 0;
        while (y.stretch(count, 0) == ProjectSchedule.BAD_NUMBER) {
            count++;
        }
        return count;
    }

    private static void change(String what, ProjectSchedule x, Reference y, int longest, int latest) {
        int last = count(y) - 1;
        int task = near(0, Math.max(last, 0));
        switch (DRAW.upTo(10)) {
            case 0:
                Check.due(what + " drop", y.drop(), x.drop());
                break;
            case 1:
            case 2:
                int means = near(0, 1);
                int capacity = DRAW.upTo(3) == 0 ? near(1, 8) : DRAW.between(4, 8);
                Check.due(what + " capacity", y.capacity(means, capacity), x.capacity(means, capacity));
                break;
            case 3:
            case 4:
                int duration = duration(longest);
                Check.due(what + " stretch", y.stretch(task, duration), x.stretch(task, duration));
                break;
            case 5:
            case 6:
                int release = release(latest);
                int due = DRAW.upTo(1) == 0 ? near(0, 99) : DRAW.upTo(15);
                Check.due(what + " times", y.times(task, release, due), x.times(task, release, due));
                break;
            case 7:
                // With all six tasks there the answer is FULL or BAD_NUMBER.
                if (last == 5) {
                    int long9 = duration(9);
                    int needs = needs();
                    Check.due(what + " task", y.task(long9, needs), x.task(long9, needs));
                }
                break;
            default:
                int a = near(0, Math.max(last, 0));
                boolean on = DRAW.upTo(2) > 0;
                Check.due(what + " precede", y.precede(a, task, on), x.precede(a, task, on));
                break;
        }
    }

    private static void ask(String what, ProjectSchedule x, Reference y) {
        int task = near(0, Math.max(count(y) - 1, 0));
        int means = near(0, 1);
        switch (DRAW.upTo(6)) {
            case 0:
                Check.due(what + " shortest", y.shortest(), x.shortest());
                break;
            case 1:
                Check.due(what + " leastLateness", y.leastLateness(), x.leastLateness());
                break;
            case 2:
                Check.due(what + " earliestEnd", y.earliestEnd(task), x.earliestEnd(task));
                break;
            case 3:
                Check.due(what + " withoutLimits", y.withoutLimits(), x.withoutLimits());
                break;
            case 4:
                Check.due(what + " burden", y.burden(task), x.burden(task));
                break;
            case 5:
                Check.due(what + " leastCapacity", y.leastCapacity(means), x.leastCapacity(means));
                break;
            default:
                Check.due(what + " critical", y.critical(), x.critical());
                break;
        }
    }
}
