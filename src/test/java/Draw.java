/** Draws numbers for long runs; from the same seed always the same ones, so that runs can be repeated. */
final class Draw {
    private long state;

    Draw(long seed) {
        state = seed;
    }

    int upTo(int greatest) {
        return between(0, greatest);
    }

    int between(int least, int greatest) {
        state = state * 6364136223846793005L + 1442695040888963407L;
        return least + (int) ((state >>> 33) % (greatest - least + 1));
    }

    int oneOf(int... numbers) {
        return numbers[upTo(numbers.length - 1)];
    }
}
