import java.io.IOException;
import java.lang.reflect.Field;
import java.lang.reflect.Method;
import java.lang.reflect.Modifier;
import java.nio.file.Files;
import java.nio.file.Path;
import java.util.ArrayList;
import java.util.Arrays;
import java.util.List;
import java.util.Map;
import java.util.TreeMap;
import java.util.TreeSet;
import java.util.regex.Matcher;
import java.util.regex.Pattern;

/** What README.md says of the class: the answers of its calls, its codes and its constants. */
public final class ReadmeTest {
    private static final Pattern CALL = Pattern.compile("x\\.(\\w+)\\(([-0-9, ]*)\\);(?: +// (-?[0-9]+)(?:: .*)?)?");
    private static final Pattern CODE = Pattern.compile("([0-9]+) ([A-Z]+)");
    private static final Pattern CONSTANT = Pattern.compile("\\| ([0-9]+) \\| `([A-Z_]+)` \\|.*");

    private static final Check check = new Check();
    private static List<String> readme;

    public static void main(String[] args) throws IOException, ReflectiveOperationException {
        readme = Files.readAllLines(Path.of("README.md"));
        everyCallAnswersWhatStandsBehindIt();
        everyCodeIsNamed();
        everyConstantIsNamed();
        check.end();
    }

    /** The blocks are carried out one after the other, on one object. */
    private static void everyCallAnswersWhatStandsBehindIt() throws ReflectiveOperationException {
        StackTarget x = null;
        TreeSet<String> used = new TreeSet<>();
        for (String line : blocks("java")) {
            if (line.equals("StackTarget x = new StackTarget();")) {
                x = new StackTarget();
                continue;
            }
            Matcher call = CALL.matcher(line);
            check.due("README.md, is a call: " + line, call.matches());
            if (call.matches()) {
                answer(x, line, call);
                used.add(call.group(1));
            }
        }
        TreeSet<String> methods = new TreeSet<>();
        for (Method method : StackTarget.class.getDeclaredMethods()) {
            if (Modifier.isPublic(method.getModifiers())) {
                methods.add(method.getName());
            }
        }
        check.due("README.md uses every method: " + used, used.equals(methods));
    }

    private static void answer(StackTarget x, String line, Matcher call) throws ReflectiveOperationException {
        List<Object> numbers = new ArrayList<>();
        for (String number : call.group(2).split(", ")) {
            if (!number.isEmpty()) {
                numbers.add(Integer.valueOf(number));
            }
        }
        Class<?>[] types = new Class<?>[numbers.size()];
        Arrays.fill(types, int.class);
        Object got = StackTarget.class.getMethod(call.group(1), types).invoke(x, numbers.toArray());
        check.due("README.md, tells an answer if there is one: " + line, (got == null) == (call.group(3) == null));
        if (got != null && call.group(3) != null) {
            check.due("README.md: " + line, (Integer) got, Integer.parseInt(call.group(3)));
        }
    }

    private static void everyCodeIsNamed() {
        Map<Integer, String> due = new TreeMap<>();
        for (int code = 0; code < Source.CODES.size(); code++) {
            due.put(code, Source.CODES.get(code));
        }
        Map<Integer, String> found = new TreeMap<>();
        for (String line : blocks("text")) {
            Matcher code = CODE.matcher(line);
            while (code.find()) {
                found.put(Integer.valueOf(code.group(1)), code.group(2));
            }
        }
        check.due("README.md, the codes " + found, found.equals(due));
    }

    private static void everyConstantIsNamed() throws ReflectiveOperationException {
        Map<Integer, String> due = new TreeMap<>();
        for (Field field : StackTarget.class.getFields()) {
            due.put(field.getInt(null), field.getName());
        }
        Map<Integer, String> found = new TreeMap<>();
        for (String line : readme) {
            Matcher constant = CONSTANT.matcher(line);
            if (constant.matches()) {
                found.put(Integer.valueOf(constant.group(1)), constant.group(2));
            }
        }
        check.due("README.md, the constants " + found, found.equals(due));
    }

    /** The lines of all blocks of this sort. */
    private static List<String> blocks(String sort) {
        List<String> lines = new ArrayList<>();
        boolean inside = false;
        for (String line : readme) {
            if (line.startsWith("```")) {
                inside = line.equals("```" + sort);
            } else if (inside) {
                lines.add(line);
            }
        }
        return lines;
    }
}
