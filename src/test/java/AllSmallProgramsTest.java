/** Every program of at most six tokens over variables 0 and 3, against the model (promises 2 to 18). */
public final class AllSmallProgramsTest {
    private static final int MOST = 6;
    private static final int[] TOKENS = {
        0, 1, 4, 5, 6, 8, 11, 12, 15, 16, 17, 18, 19, 20, 21, 22, 24, 28, 31,
    };
    private static final Check CHECK = new Check();
    private static final int[] PROGRAM = new int[MOST];
    private static int programs;

    public static void main(String[] args) {
        extend(0, "s");
        System.out.println(programs + " programs");
        CHECK.finish();
    }

    // The program has length tokens, and the open parts must still come.
    private static void extend(int length, String open) {
        if (open.isEmpty()) {
            programs++;
            Compare.program(CHECK, java.util.Arrays.copyOf(PROGRAM, length));
            return;
        }
        if (length + open.length() > MOST) {
            return;
        }
        for (int token : TOKENS) {
            if (Token.kind(token) == open.charAt(0)) {
                PROGRAM[length] = token;
                extend(length + 1, Token.parts(token) + open.substring(1));
            }
        }
    }
}
