import java.util.Arrays;

/** Programs of up to 22 tokens of every kind, against the model (promises 2 to 18). */
public final class LargeProgramsTest {
    private static final int PROGRAMS = 20000;

    public static void main(String[] args) {
        Check check = new Check();
        Numbers numbers = new Numbers(1);
        int longest = 0;
        int tokens = 0;
        for (int i = 0; i < PROGRAMS; i++) {
            int[] program = grow(numbers, 8 + numbers.below(15));
            tokens += program.length;
            longest += program.length == 22 ? 1 : 0;
            Compare.program(check, program);
        }
        System.out.println(PROGRAMS + " programs, " + tokens + " tokens, " + longest + " programs of 22");
        check.due("some programs have all 22 tokens", longest > 0, true);
        check.finish();
    }

    /** Takes tokens that leave room for what must still come, until nothing must come. */
    private static int[] grow(Numbers numbers, int most) {
        int[] program = new int[most];
        int length = 0;
        String open = "s";
        int patience = 6 + numbers.below(40);
        while (!open.isEmpty()) {
            int token = Token.ALL[numbers.below(Token.ALL.length)];
            String parts = Token.parts(token);
            boolean fits = length + parts.length() + open.length() <= most;
            // Leaves are more than half of the tokens: without this most programs would be short.
            boolean tooEarly = parts.isEmpty() && length + open.length() < most - 2 && numbers.below(patience) > 0;
            if (Token.kind(token) == open.charAt(0) && fits && !tooEarly) {
                program[length] = token;
                length++;
                open = parts + open.substring(1);
            }
        }
        return Arrays.copyOf(program, length);
    }
}
