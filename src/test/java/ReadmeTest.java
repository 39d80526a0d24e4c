import java.io.IOException;
import java.lang.reflect.Method;
import java.lang.reflect.Modifier;
import java.nio.file.Files;
import java.nio.file.Path;
import java.util.Set;
import java.util.TreeSet;
import java.util.regex.Matcher;
import java.util.regex.Pattern;

/** What README.md says of the class: its examples answer what stands behind them, and its table has every call. */
public final class ReadmeTest {
    private static final Check check = new Check();
    private static final Pattern EXAMPLE = Pattern.compile("x\\.(\\w+)\\(([^)]*)\\);\\s*// (-?\\d+)\\b.*");
    private static final Pattern CALL = Pattern.compile("`(\\w+)\\(([^)]*)\\)`");

    public static void main(String[] args) throws IOException, ReflectiveOperationException {
        String text = Files.readString(Path.of("README.md"));
        examples(text);
        table(text);
        tests(text);
        check.end();
    }

    private static void examples(String text) throws ReflectiveOperationException {
        ReedSets x = new ReedSets();
        int seen = 0;
        boolean isJava = false;
        for (String line : text.split("\n")) {
            if (line.startsWith("```")) {
                isJava = line.equals("```java");
            } else if (isJava && line.equals("ReedSets x = new ReedSets();")) {
                x = new ReedSets();
            } else if (isJava) {
                Matcher example = EXAMPLE.matcher(line);
                boolean isExample = example.matches();
                check.isTrue("a call with its answer: " + line, isExample);
                if (isExample) {
                    int due = Integer.parseInt(example.group(3));
                    check.due(line, answer(x, example.group(1), example.group(2)), due);
                    seen++;
                }
            }
        }
        check.isTrue("there are examples", seen > 0);
    }

    private static int answer(ReedSets x, String name, String list) throws ReflectiveOperationException {
        String[] words = list.isEmpty() ? new String[0] : list.split(", ");
        Object[] arguments = new Object[words.length];
        Class<?>[] types = new Class<?>[words.length];
        for (int i = 0; i < words.length; i++) {
            arguments[i] = words[i].equals("ReedSets.NONE") ? ReedSets.NONE : Integer.parseInt(words[i]);
            types[i] = int.class;
        }
        return (int) ReedSets.class.getMethod(name, types).invoke(x, arguments);
    }

    private static void table(String text) {
        Set<String> told = new TreeSet<>();
        for (String line : text.split("\n")) {
            Matcher call = CALL.matcher(line.startsWith("| `") ? line.substring(0, line.indexOf('|', 1)) : "");
            while (call.find()) {
                int many = call.group(2).isEmpty() ? 0 : call.group(2).split(", ").length;
                told.add(call.group(1) + " " + many);
            }
        }
        Set<String> due = new TreeSet<>();
        for (Method method : ReedSets.class.getDeclaredMethods()) {
            if (Modifier.isPublic(method.getModifiers())) {
                due.add(method.getName() + " " + method.getParameterCount());
            }
        }
        check.isTrue("the table has all calls, and no other: " + told, told.equals(due));
    }

    private static void tests(String text) throws IOException {
        try (var files = Files.list(Path.of("src/test/java"))) {
            for (Path file : files.toList()) {
                String name = file.getFileName().toString().replace(".java", "");
                check.isTrue(name + " is told of", !name.endsWith("Test") || text.contains("`" + name + "`"));
            }
        }
    }
}
