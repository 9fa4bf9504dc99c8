import java.io.IOException;
import java.lang.reflect.Field;
import java.lang.reflect.Method;
import java.lang.reflect.Modifier;
import java.nio.file.Files;
import java.nio.file.Path;
import java.util.ArrayList;
import java.util.List;
import java.util.Map;
import java.util.TreeMap;
import java.util.regex.Matcher;
import java.util.regex.Pattern;

/**
 * What README.md tells a reader about the class is so: the answers of its example, the methods of its
 * first table and the constants of its second. Runs at the top of the checkout.
 */
public final class ReadmeTest {
    private static final Pattern EXAMPLE_CALL =
            Pattern.compile("(?:int (\\w+) = )?store\\.(\\w+)\\(([^)]*)\\);\\s*// (-?\\w+)(?::.*)?");
    private static final Pattern CALL_ROW = Pattern.compile("\\| `(\\w+)\\(([^)]*)\\)` \\|.*");
    private static final Pattern CONSTANT_ROW = Pattern.compile("\\| `([A-Z_]+)` \\| (-?\\d+) \\|.*");
    private static final String EXAMPLE_START = "CatalogStore store = new CatalogStore();";

    private static int wrong = 0;

    public static void main(String[] args) throws IOException, ReflectiveOperationException {
        List<String> lines = Files.readAllLines(Path.of("README.md"));
        example(lines);
        callTable(lines);
        constantTable(lines);
        System.out.println(wrong == 0 ? "README.md is as due" : wrong + " places of README.md are not as due");
        if (wrong != 0) {
            System.exit(1);
        }
    }

    private static void check(boolean holds, String text) {
        if (!holds) {
            wrong++;
            System.out.println("not so: " + text);
        }
    }

    private static List<String> exampleLines(List<String> lines) {
        int start = lines.indexOf("```java");
        List<String> found = new ArrayList<>();
        for (int at = start + 1; start >= 0 && at < lines.size() && !lines.get(at).equals("```"); at++) {
            found.add(lines.get(at));
        }
        return found;
    }

    private static void example(List<String> lines) throws ReflectiveOperationException {
        List<String> example = exampleLines(lines);
        check(!example.isEmpty() && example.get(0).startsWith(EXAMPLE_START), "the example begins with " + EXAMPLE_START);
        CatalogStore store = new CatalogStore();
        Map<String, Integer> variables = new TreeMap<>();
        Map<String, Method> methods = publicMethods();
        Map<String, Method> unused = new TreeMap<>(methods);
        for (int at = 1; at < example.size(); at++) {
            String line = example.get(at);
            Matcher call = EXAMPLE_CALL.matcher(line);
            // A line that is not understood would otherwise go untested.
            if (!call.matches() || !methods.containsKey(call.group(2))) {
                check(false, "a call with its answer: " + line);
                continue;
            }
            unused.remove(call.group(2));
            Object[] arguments = arguments(call.group(3), variables);
            int answer = (Integer) methods.get(call.group(2)).invoke(store, arguments);
            check(answer == told(call.group(4)), line + " (the answer is " + answer + ")");
            if (call.group(1) != null) {
                variables.put(call.group(1), answer);
            }
        }
        check(unused.isEmpty(), "the example uses every method, also " + unused.keySet());
    }

    private static Object[] arguments(String text, Map<String, Integer> variables) {
        List<Object> found = new ArrayList<>();
        for (String word : words(text)) {
            if (word.equals("true") || word.equals("false")) {
                found.add(Boolean.valueOf(word));
            } else {
                found.add(variables.containsKey(word) ? variables.get(word) : Integer.valueOf(word));
            }
        }
        return found.toArray();
    }

    private static List<String> words(String text) {
        return text.isEmpty() ? List.of() : List.of(text.split(", "));
    }

    private static int told(String answer) throws ReflectiveOperationException {
        boolean number = Character.isDigit(answer.charAt(answer.length() - 1));
        return number ? Integer.parseInt(answer) : CatalogStore.class.getField(answer).getInt(null);
    }

    private static Map<String, Method> publicMethods() {
        Map<String, Method> found = new TreeMap<>();
        for (Method method : CatalogStore.class.getDeclaredMethods()) {
            if (Modifier.isPublic(method.getModifiers())) {
                found.put(method.getName(), method);
            }
        }
        return found;
    }

    private static void callTable(List<String> lines) {
        Map<String, Integer> due = new TreeMap<>();
        publicMethods().forEach((name, method) -> due.put(name, method.getParameterCount()));
        Map<String, Integer> found = new TreeMap<>();
        for (String line : lines) {
            Matcher row = CALL_ROW.matcher(line);
            if (row.matches()) {
                check(found.put(row.group(1), words(row.group(2)).size()) == null, row.group(1) + " has one row");
            }
        }
        check(found.equals(due), "the methods and how many parameters they have are " + due + ", told are " + found);
    }

    private static void constantTable(List<String> lines) throws ReflectiveOperationException {
        Map<String, Integer> due = new TreeMap<>();
        for (Field field : CatalogStore.class.getFields()) {
            due.put(field.getName(), field.getInt(null));
        }
        Map<String, Integer> found = new TreeMap<>();
        for (String line : lines) {
            Matcher row = CONSTANT_ROW.matcher(line);
            if (row.matches()) {
                check(found.put(row.group(1), Integer.valueOf(row.group(2))) == null, row.group(1) + " has one row");
            }
        }
        check(found.equals(due), "the constants are " + due + ", told are " + found);
    }
}
