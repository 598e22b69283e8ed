import java.lang.reflect.Field;
import java.lang.reflect.Method;
import java.lang.reflect.Modifier;
import java.util.Arrays;
import java.util.Set;
import java.util.TreeMap;
import java.util.TreeSet;

/** The public face: the document's constants, constructor and methods, and nothing else that is not private. */
public final class FaceTest {
    private static final Check check = new Check();

    public static void main(String[] args) throws ReflectiveOperationException {
        classIsPublicAndFinal();
        constants();
        methods();
        check.end();
    }

    private static void classIsPublicAndFinal() {
        check.due("the class is public", Modifier.isPublic(StackTarget.class.getModifiers()));
        check.due("the class is final", Modifier.isFinal(StackTarget.class.getModifiers()));
        check.due("constructors", StackTarget.class.getDeclaredConstructors().length, 1);
        check.due("public constructors", StackTarget.class.getConstructors().length, 1);
        check.due("nested classes", StackTarget.class.getDeclaredClasses().length, 0);
    }

    private static void constants() throws ReflectiveOperationException {
        TreeMap<String, Integer> due = new TreeMap<>();
        String[] errors = {"STRAY", "BAD_NAME", "TWICE", "UNBALANCED", "DEEP", "OPEN", "UNKNOWN"};
        String[] stops = {"UNDERFLOW", "OVERFLOW", "DIVIDE", "ADDRESS", "FULL", "TIRED", "NESTED"};
        for (int i = 0; i < errors.length; i++) {
            due.put(errors[i], 1 + i);
            due.put(stops[i], 11 + i);
        }
        TreeMap<String, Integer> found = new TreeMap<>();
        for (Field field : StackTarget.class.getDeclaredFields()) {
            if (!Modifier.isPrivate(field.getModifiers())) {
                check.due(field.getName() + " is a constant", field.toString().startsWith("public static final int "));
                found.put(field.getName(), field.getInt(null));
            }
        }
        check.due("the constants " + found, found.equals(due));
    }

    private static void methods() {
        Set<String> due = new TreeSet<>(Arrays.asList(
            "public int StackTarget.token(int,int)", "public void StackTarget.clear()", "public int StackTarget.translate()",
            "public int StackTarget.errorAt()", "public int StackTarget.push(int)", "public int StackTarget.run(int)",
            "public int StackTarget.depth()", "public int StackTarget.top(int)", "public int StackTarget.outputs()",
            "public int StackTarget.output(int)", "public int StackTarget.variable(int)"));
        Set<String> found = new TreeSet<>();
        Set<String> publicNames = new TreeSet<>();
        for (Method method : StackTarget.class.getDeclaredMethods()) {
            if (!Modifier.isPrivate(method.getModifiers())) {
                found.add(method.toString());
                publicNames.add(method.getName());
            }
        }
        check.due("the methods " + found, found.equals(due));
        for (Method method : StackTarget.class.getDeclaredMethods()) {
            boolean hides = Modifier.isPrivate(method.getModifiers()) && publicNames.contains(method.getName());
            check.due(method + " has a name of its own", !hides);
        }
    }
}
