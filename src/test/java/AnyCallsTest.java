/**
 * LANGUAGE.md, rules 7 and 11: no call throws, whatever its arguments and however many calls there
 * were, and the same calls answer the same again; within 512 calls no answer is one that the
 * document does not know.
 */
public final class AnyCallsTest {
    private static final int BAD_TASK = ProjectSchedule.BAD_TASK;
    private static final int BAD_NUMBER = ProjectSchedule.BAD_NUMBER;
    private static final int FULL = ProjectSchedule.FULL;
    private static final int NONE = ProjectSchedule.NONE;
    private static final int PROMISED = 512;
    private static final int CALLS = 2000;
    // All tasks one after the other behind the last release.
    private static final int LONGEST = 20 + 6 * 9;

    public static void main(String[] args) {
        for (int run = 0; run < 40; run++) {
            int[] first = answers(run);
            int[] again = answers(run);
            for (int call = 0; call < CALLS; call++) {
                Check.due("run " + run + ", call " + call + " again", first[call], again[call]);
            }
        }
        Check.end();
    }

    private static int[] answers(int run) {
        Draw draw = new Draw(run);
        ProjectSchedule x = new ProjectSchedule();
        int[] answers = new int[CALLS];
        for (int call = 0; call < CALLS; call++) {
            int kind = draw.upTo(14);
            answers[call] = answer(x, kind, draw);
            if (call < PROMISED) {
                String what = "run " + run + ", call " + call + ", kind " + kind;
                Check.holds(what + " may answer " + answers[call], isKnown(kind, answers[call]));
            }
        }
        return answers;
    }

    /** A number that some parameter takes, more often than any number at all. */
    private static int number(Draw draw) {
        if (draw.upTo(5) > 0) {
            return draw.upTo(6);
        }
        return draw.oneOf(-1000, -7, -2, -1, 7, 8, 9, 10, 20, 21, 32, 36, 37, 63, 64, 99, 100, 1000,
                Numbers.LOW, Numbers.LOW + 1, Numbers.HIGH - 1, Numbers.HIGH,
                draw.upTo(Numbers.HIGH - 1), -draw.upTo(Numbers.HIGH - 1));
    }

    private static int answer(ProjectSchedule x, int kind, Draw draw) {
        int a = number(draw);
        int b = number(draw);
        switch (kind) {
            case 0:
            case 13:
            case 14:
                return x.task(a, b);
            case 1:
                return x.capacity(a, b);
            case 2:
                return x.precede(a, b, draw.upTo(2) > 0);
            case 3:
                return x.times(a, b, number(draw));
            case 4:
                return x.stretch(a, b);
            case 5:
                return x.drop();
            case 6:
                return x.shortest();
            case 7:
                return x.leastLateness();
            case 8:
                return x.earliestEnd(a);
            case 9:
                return x.withoutLimits();
            case 10:
                return x.burden(a);
            case 11:
                return x.leastCapacity(a);
            default:
                return x.critical();
        }
    }

    private static boolean isKnown(int kind, int answer) {
        switch (kind) {
            case 0:
            case 13:
            case 14:
                return answer == BAD_NUMBER || answer == FULL || isIn(0, 5, answer);
            case 1:
                return answer == BAD_NUMBER || isIn(1, 8, answer);
            case 2:
                return answer == BAD_TASK || isIn(0, 1, answer);
            case 3:
                return answer == BAD_TASK || answer == BAD_NUMBER || answer == 0;
            case 4:
                return answer == BAD_TASK || answer == BAD_NUMBER || isIn(1, 9, answer);
            case 5:
                return answer == BAD_TASK || isIn(0, 5, answer);
            case 6:
            case 9:
                return answer == NONE || isIn(1, LONGEST, answer);
            case 7:
                return answer == NONE || isIn(1 - 99, LONGEST, answer);
            case 8:
                return answer == BAD_TASK || answer == NONE || isIn(1, LONGEST, answer);
            case 10:
                return answer == BAD_TASK || answer == NONE || isIn(0, LONGEST - 1, answer);
            case 11:
                return answer == BAD_NUMBER || answer == NONE || isIn(1, 8, answer);
            default:
                return answer == NONE || isIn(0, 6, answer);
        }
    }

    private static boolean isIn(int least, int greatest, int answer) {
        return least <= answer && answer <= greatest;
    }
}
