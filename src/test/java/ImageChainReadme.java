import java.io.IOException;
import java.lang.reflect.Method;
import java.lang.reflect.Modifier;
import java.nio.file.Files;
import java.nio.file.Path;
import java.util.List;
import java.util.Map;
import java.util.Set;
import java.util.TreeMap;
import java.util.TreeSet;
import java.util.regex.Matcher;
import java.util.regex.Pattern;

/** What README.md says of an answer is what the class answers, and it leaves no call out. */
public final class ImageChainReadme {
    private static final Pattern MADE = Pattern.compile("ImageChain x = new ImageChain\\(\\);");
    private static final Pattern EXAMPLE =
        Pattern.compile("x\\.(\\w+)\\(([-\\d, ]*)\\);\\s+// (-?\\d+|true|false|BAD_ARG|FULL|NONE)(: .+)?");
    private static final Pattern ROW =
        Pattern.compile("\\| `(\\w+)\\(([a-z, ]*)\\)` \\|([^|]*)\\|([^|]*)\\|([^|]*)\\|");
    private static final Pattern CODE = Pattern.compile("`(BAD_ARG|FULL|NONE)`");
    private static final Pattern MEANING = Pattern.compile("- `(BAD_ARG|FULL|NONE)` \\((-\\d)\\): .+");

    private static int wrong = 0;
    private static int examples = 0;

    private static void fault(String what) {
        wrong++;
        System.out.println(what);
    }

    private static Map<String, Method> publicMethods() {
        Map<String, Method> methods = new TreeMap<>();
        for (Method method : ImageChain.class.getDeclaredMethods()) {
            if (Modifier.isPublic(method.getModifiers())) {
                methods.put(method.getName(), method);
            }
        }
        return methods;
    }

    private static Object[] arguments(String text) {
        if (text.isBlank()) {
            return new Object[0];
        }
        String[] parts = text.split(", ");
        Object[] arguments = new Object[parts.length];
        for (int i = 0; i < parts.length; i++) {
            arguments[i] = Integer.valueOf(parts[i]);
        }
        return arguments;
    }

    private static String code(String name) throws ReflectiveOperationException {
        return String.valueOf(ImageChain.class.getField(name).getInt(null));
    }

    private static boolean isCode(String answer) {
        return Character.isUpperCase(answer.charAt(0));
    }

    /** Makes the call of one example line and notes, if it shows a refusal, with which code. */
    private static void example(ImageChain x, String line, Map<String, Method> methods, Map<String, Set<String>> shown)
        throws ReflectiveOperationException {
        Matcher call = EXAMPLE.matcher(line);
        if (!call.matches() || !methods.containsKey(call.group(1))) {
            fault("not an example: " + line);
            return;
        }
        examples++;
        String answer = call.group(3);
        String want = isCode(answer) ? code(answer) : answer;
        String got = String.valueOf(methods.get(call.group(1)).invoke(x, arguments(call.group(2))));
        if (!got.equals(want)) {
            fault(line + " -- the class answered " + got);
        }
        Set<String> codes = shown.computeIfAbsent(call.group(1), name -> new TreeSet<>());
        if (isCode(answer)) {
            codes.add(answer);
        }
    }

    /** Runs all java blocks; answers which calls they show, and the codes with which each was refused. */
    private static Map<String, Set<String>> runExamples(List<String> lines, Map<String, Method> methods)
        throws ReflectiveOperationException {
        Map<String, Set<String>> shown = new TreeMap<>();
        ImageChain x = null;
        boolean inBlock = false;
        for (String line : lines) {
            if (line.startsWith("```")) {
                inBlock = line.equals("```java");
                x = null;
            } else if (inBlock && MADE.matcher(line).matches()) {
                x = new ImageChain();
            } else if (inBlock && x == null) {
                fault("a block that does not begin with a new object: " + line);
            } else if (inBlock) {
                example(x, line, methods, shown);
            }
        }
        return shown;
    }

    /** Answers the calls of the table, and the codes that each names for a refusal. */
    private static Map<String, Set<String>> readTable(List<String> lines, Map<String, Method> methods) {
        Map<String, Set<String>> told = new TreeMap<>();
        for (String line : lines) {
            Matcher row = ROW.matcher(line);
            if (!row.matches()) {
                if (line.startsWith("| `")) {
                    fault("not a row of the table: " + line);
                }
                continue;
            }
            Method method = methods.get(row.group(1));
            int parameters = row.group(2).isBlank() ? 0 : row.group(2).split(", ").length;
            if (method == null || method.getParameterCount() != parameters) {
                fault("the class has no such call: " + line);
            }
            if (row.group(4).isBlank()) {
                fault("no answer told: " + line);
            }
            Set<String> codes = new TreeSet<>();
            CODE.matcher(row.group(5)).results().forEach(found -> codes.add(found.group(1)));
            if (told.put(row.group(1), codes) != null) {
                fault("told twice: " + line);
            }
        }
        return told;
    }

    private static void codesHaveTheirNumbers(List<String> lines) throws ReflectiveOperationException {
        Set<String> told = new TreeSet<>();
        for (String line : lines) {
            Matcher meaning = MEANING.matcher(line);
            if (meaning.matches()) {
                told.add(meaning.group(1));
                if (!meaning.group(2).equals(code(meaning.group(1)))) {
                    fault("another number: " + line);
                }
            }
        }
        if (told.size() != 3) {
            fault("of the three codes only these are explained: " + told);
        }
    }

    public static void main(String[] args) throws IOException, ReflectiveOperationException {
        List<String> lines = Files.readAllLines(Path.of("README.md"));
        Map<String, Method> methods = publicMethods();
        Map<String, Set<String>> shown = runExamples(lines, methods);
        Map<String, Set<String>> told = readTable(lines, methods);
        codesHaveTheirNumbers(lines);
        for (String name : methods.keySet()) {
            if (!shown.containsKey(name)) {
                fault("no example shows " + name);
            }
            if (!told.containsKey(name)) {
                fault("the table leaves out " + name);
            }
            if (!told.getOrDefault(name, Set.of()).equals(shown.getOrDefault(name, Set.of()))) {
                fault(name + ": the table names the codes " + told.get(name) + ", the examples " + shown.get(name));
            }
        }
        System.out.println(wrong == 0 ? "README.md says what is so, in " + examples + " examples" : wrong + " faults");
        if (wrong != 0) {
            System.exit(1);
        }
    }
}
