import java.io.IOException;
import java.lang.reflect.InvocationTargetException;
import java.lang.reflect.Method;
import java.lang.reflect.Modifier;
import java.nio.file.Files;
import java.nio.file.Path;
import java.util.HashSet;
import java.util.List;
import java.util.Set;
import java.util.regex.Matcher;
import java.util.regex.Pattern;

/** What README.md shows is what the class answers, and it leaves out no method. */
public final class ReadmeTest {
    private static final Path README = Path.of("README.md");
    private static final Pattern MAKING =
        Pattern.compile("(?:GraphCatalogue )?x = new GraphCatalogue\\((-?\\d+)\\);");
    private static final Pattern CALL =
        Pattern.compile("x\\.(\\w+)\\(([-\\d, ]*)\\);\\s+// (-?\\d+|true|false|BAD)\\b.*");
    private static final Pattern ROW = Pattern.compile("\\| `(\\w+)\\([\\w, ]*\\)` .*");

    private static GraphCatalogue x = null;
    private static int wrong = 0;

    private static void fault(String what) {
        wrong++;
        System.out.println(what);
    }

    private static Set<String> methods() {
        Set<String> names = new HashSet<>();
        for (Method m : GraphCatalogue.class.getDeclaredMethods()) {
            if (Modifier.isPublic(m.getModifiers())) names.add(m.getName());
        }
        return names;
    }

    private static Object answer(String method, String arguments)
            throws NoSuchMethodException, IllegalAccessException, InvocationTargetException {
        String[] words = arguments.isEmpty() ? new String[0] : arguments.split(", ");
        Class<?>[] types = new Class<?>[words.length];
        Object[] numbers = new Object[words.length];
        for (int k = 0; k < words.length; k++) {
            types[k] = int.class;
            numbers[k] = Integer.valueOf(words[k]);
        }
        return GraphCatalogue.class.getMethod(method, types).invoke(x, numbers);
    }

    private static Set<String> calledInTheExample(List<String> lines)
            throws NoSuchMethodException, IllegalAccessException, InvocationTargetException {
        Set<String> called = new HashSet<>();
        int start = lines.indexOf("```java") + 1;
        for (int k = start; start > 0 && !lines.get(k).equals("```"); k++) {
            String line = lines.get(k);
            Matcher making = MAKING.matcher(line);
            Matcher call = CALL.matcher(line);
            if (making.matches()) {
                x = new GraphCatalogue(Integer.parseInt(making.group(1)));
            } else if (call.matches()) {
                called.add(call.group(1));
                String due = call.group(3).equals("BAD") ? "-1" : call.group(3);
                String got = answer(call.group(1), call.group(2)).toString();
                if (!got.equals(due)) fault("the class answers " + got + " to: " + line);
            } else if (!line.isEmpty()) {
                fault("cannot be checked: " + line);
            }
        }
        return called;
    }

    private static Set<String> toldInTheTable(List<String> lines) {
        Set<String> told = new HashSet<>();
        for (String line : lines) {
            Matcher row = ROW.matcher(line);
            if (row.matches()) told.add(row.group(1));
        }
        return told;
    }

    public static void main(String[] args) throws IOException, ReflectiveOperationException {
        List<String> lines = Files.readAllLines(README);
        Set<String> called = calledInTheExample(lines);
        Set<String> told = toldInTheTable(lines);
        if (!called.equals(methods())) fault("the example calls " + called + ", not " + methods());
        if (!told.equals(methods())) fault("the table tells of " + told + ", not " + methods());
        System.out.println(wrong == 0 ? "README.md is as due" : wrong + " faults in README.md");
        if (wrong != 0) System.exit(1);
    }
}
