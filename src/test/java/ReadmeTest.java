import java.lang.reflect.Method;
import java.lang.reflect.Modifier;
import java.nio.file.Files;
import java.nio.file.Path;
import java.util.regex.Matcher;
import java.util.regex.Pattern;

/** What README.md tells about the class: its example's answers, and no method or token left out. */
public final class ReadmeTest {
    private static final Pattern PROGRAM = Pattern.compile("int\\[\\] program = \\{([0-9, ]+)\\};");
    private static final Pattern CALL =
        Pattern.compile("(?m)^desk\\.(\\w+)\\((-?\\d*)\\); +// (-?\\d+|true|false)\\b");
    private static final String[] TOKENS = {
        "0 | SKIP", "1 | BREAK", "4 | PAIR s t", "5 | IF c s t", "6 | LOOP c s", "8 + v | SET v", "12 + v | USE v",
        "16 | YES", "17 | NO", "18 | ASK", "19 | NOT c", "20 | BOTH c d", "21 | ANY c d", "22 | PICK c d e",
        "24 + v | TRY v", "28 + v | PEEK v",
    };

    private static final Check CHECK = new Check();

    public static void main(String[] args) throws Exception {
        String text = Files.readString(Path.of("README.md"));
        exampleAnswersAsTold(text);
        everyMethodIsTold(text);
        everyTokenIsTold(text);
        CHECK.finish();
    }

    private static void exampleAnswersAsTold(String text) throws Exception {
        Matcher program = PROGRAM.matcher(text);
        CHECK.due("a program is there", program.find(), true);
        DefiniteDesk desk = new DefiniteDesk();
        for (String token : program.group(1).split(", ")) {
            desk.feed(Integer.parseInt(token));
        }
        int calls = 0;
        Matcher call = CALL.matcher(text);
        while (call.find()) {
            String got = answer(desk, call.group(1), call.group(2));
            CHECK.due(call.group() + " (got " + got + ") is right", got.equals(call.group(3)), true);
            calls++;
        }
        // An example whose lines changed their form would be passed over in silence.
        CHECK.due("calls with an answer", calls, text.split("(?m)^desk\\.").length - 1);
    }

    private static String answer(DefiniteDesk desk, String name, String argument) throws Exception {
        if (argument.isEmpty()) {
            return String.valueOf(DefiniteDesk.class.getMethod(name).invoke(desk));
        }
        Method method = DefiniteDesk.class.getMethod(name, int.class);
        return String.valueOf(method.invoke(desk, Integer.parseInt(argument)));
    }

    private static void everyMethodIsTold(String text) {
        for (Method method : DefiniteDesk.class.getDeclaredMethods()) {
            if (Modifier.isPublic(method.getModifiers())) {
                Pattern row = Pattern.compile("(?m)^\\| `" + method.getName() + "\\(");
                CHECK.due("a row for " + method.getName(), row.matcher(text).find(), true);
            }
        }
    }

    private static void everyTokenIsTold(String text) {
        for (String token : TOKENS) {
            CHECK.due("a cell for " + token, text.contains("| " + token), true);
        }
    }
}
