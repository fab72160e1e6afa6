import java.lang.reflect.Field;
import java.lang.reflect.Method;
import java.lang.reflect.Modifier;
import java.util.ArrayList;
import java.util.Collections;
import java.util.List;

/** The public face of the document, and no other member that is not private. */
public final class FaceTest {
    private static final List<String> FACE = List.of(
        "constant int FULL", "constant int NONE",
        "int back()", "int badUses()", "void clear()", "boolean complete()", "boolean ends()",
        "int feed(int)", "int length()", "int perhaps(int)", "int perhapsAtEnd()", "int run(int)",
        "int runFaults()", "int runSet()", "int runVisited()", "int secondSets()",
        "int surely(int)", "int surelyAtEnd()", "int visited()");

    public static void main(String[] args) {
        Check check = new Check();
        List<String> due = new ArrayList<>(FACE);
        Collections.sort(due);
        List<String> found = members();
        System.out.println("found: " + found);
        check.due("members are as in the document", found.equals(due), true);
        check.due("the class is public and final",
            DefiniteDesk.class.getModifiers(), Modifier.PUBLIC | Modifier.FINAL);
        check.due("constructors", DefiniteDesk.class.getDeclaredConstructors().length, 1);
        check.due("public constructors", DefiniteDesk.class.getConstructors().length, 1);
        check.due("parameters of it", DefiniteDesk.class.getConstructors()[0].getParameterCount(), 0);
        check.due("nested classes", DefiniteDesk.class.getDeclaredClasses().length, 0);
        check.due("NONE", DefiniteDesk.NONE, -1);
        check.due("FULL", DefiniteDesk.FULL, -2);
        check.finish();
    }

    private static List<String> members() {
        List<String> found = new ArrayList<>();
        for (Field field : DefiniteDesk.class.getDeclaredFields()) {
            if (!Modifier.isPrivate(field.getModifiers())) {
                boolean constant = field.getModifiers() == (Modifier.PUBLIC | Modifier.STATIC | Modifier.FINAL);
                found.add((constant ? "constant " : "field ") + field.getType() + " " + field.getName());
            }
        }
        for (Method method : DefiniteDesk.class.getDeclaredMethods()) {
            if (!Modifier.isPrivate(method.getModifiers())) {
                boolean plain = method.getModifiers() == Modifier.PUBLIC;
                String taken = method.getParameterCount() == 0 ? "" : method.getParameterTypes()[0].toString();
                found.add((plain ? "" : "odd ") + method.getReturnType() + " " + method.getName() + "(" + taken + ")");
            }
        }
        Collections.sort(found);
        return found;
    }
}
