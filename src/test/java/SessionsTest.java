/** Objects used for 512 calls of every kind, right and wrong ones, against the model (promises 1 to 18). */
public final class SessionsTest {
    private static final int SESSIONS = 1500;
    private static final int CALLS = 512;
    private static final int[] EXTREMES = {
        Integer.MIN_VALUE, Integer.MIN_VALUE + 1, -100, -2, -1, 2, 3, 7, 23, 32, 33, 64, 100,
        Integer.MAX_VALUE - 1, Integer.MAX_VALUE,
    };

    private static final int[] WITH_PARTS = {4, 5, 6, 19, 20, 21, 22};

    public static void main(String[] args) {
        Check check = new Check();
        Numbers numbers = new Numbers(2);
        for (int session = 0; session < SESSIONS; session++) {
            DefiniteDesk desk = new DefiniteDesk();
            Model model = new Model();
            for (int i = 0; i < CALLS; i++) {
                int call = chooseCall(numbers, model);
                int argument = chooseArgument(numbers, call);
                Compare.call(check, "session " + session + " call " + i, desk, model, call, argument);
            }
        }
        check.finish();
    }

    // Mostly feeds while the program is incomplete, mostly questions when it is complete.
    private static int chooseCall(Numbers numbers, Model model) {
        int feeds = model.complete() ? 1 : 30;
        int number = numbers.below(feeds + 17);
        if (number < feeds) {
            return 0;
        }
        int call = number - feeds;
        boolean rare = call == 2 || call == 1 && model.length() < 12;
        return rare && numbers.below(4) > 0 ? 13 : call;
    }

    private static int chooseArgument(Numbers numbers, int call) {
        if (numbers.below(12) == 0) {
            return EXTREMES[numbers.below(EXTREMES.length)];
        }
        if (call == 13) {
            return numbers.next();
        }
        if (call != 0) {
            return numbers.below(23);
        }
        // More of the tokens with parts, so that programs grow before they are complete.
        boolean grows = numbers.below(3) == 0;
        return grows ? WITH_PARTS[numbers.below(WITH_PARTS.length)] : numbers.below(32);
    }
}
