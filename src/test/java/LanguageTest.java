import java.io.IOException;
import java.lang.reflect.Field;
import java.lang.reflect.Method;
import java.lang.reflect.Modifier;
import java.nio.file.Files;
import java.nio.file.Path;
import java.util.ArrayList;
import java.util.HashSet;
import java.util.List;
import java.util.Set;
import java.util.regex.Matcher;
import java.util.regex.Pattern;

/** Those rules of LANGUAGE.md that the source's own words, or the compiled class, can show to be broken. */
public final class LanguageTest {
    private static final Check check = new Check();
    private static final String[] BANNED = {
        "throw", "throws", "try", "catch", "finally", "synchronized", "assert", "package", "protected", "native", "volatile",
        "transient", "Object", "System\\.(?!arraycopy\\b)\\w+", "Math\\.\\w+Exact", "hashCode", "toString", "equals", "->",
        "::", "Random", "Thread", "static\\s*\\{", "while\\s*\\(\\s*true", "for\\s*\\(\\s*;"
    };

    public static void main(String[] args) throws IOException {
        String source = Files.readString(Path.of("src/main/java/ReedSets.java"));
        String bare = source.replaceAll("(?s)/\\*.*?\\*/", " ").replaceAll("//[^\n]*", " ");
        for (String word : BANNED) {
            String pattern = Character.isLetter(word.charAt(0)) ? "\\b" + word : word;
            Matcher found = Pattern.compile(pattern + (word.matches("\\w+") ? "\\b" : "")).matcher(bare);
            check.isTrue("not in the program: " + word, !found.find());
        }
        Matcher imports = Pattern.compile("import\\s+([\\w.*]+);").matcher(bare);
        while (imports.find()) {
            check.isTrue("import of " + imports.group(1), imports.group(1).matches("java\\.util\\.(Arrays|ArrayList|List)"));
        }
        check.isTrue("all is plain text", source.chars().allMatch(c -> c < 127));
        lengths(source);
        sizes();
        check.end();
    }

    /** A method ends at the brace that stands just below its first line. */
    private static void lengths(String source) {
        Matcher method = Pattern.compile("(?ms)^( {4}| {8})(?! |/|\\*)[^\n;=]*\\) \\{\n.*?^\\1\\}$").matcher(source);
        int seen = 0;
        while (method.find()) {
            seen++;
            String text = method.group();
            check.isTrue("not long: " + text.split("\n")[0].trim(), text.split("\n").length <= 60);
        }
        check.isTrue("methods were found: " + seen, seen >= 26);
    }

    private static void sizes() {
        List<Class<?>> all = new ArrayList<>(List.of(ReedSets.class.getDeclaredClasses()));
        check.isTrue("at most twelve classes", all.size() < 12);
        all.add(ReedSets.class);
        Set<String> face = new HashSet<>();
        for (Method method : ReedSets.class.getDeclaredMethods()) {
            if (Modifier.isPublic(method.getModifiers())) {
                face.add(method.getName());
            }
        }
        for (Class<?> one : all) {
            int fields = 0;
            for (Field field : one.getDeclaredFields()) {
                fields += Modifier.isStatic(field.getModifiers()) ? 0 : 1;
            }
            check.isTrue("at most twenty fields in " + one.getName(), fields <= 20);
            for (Method method : one.getDeclaredMethods()) {
                String name = method.getName();
                check.isTrue("at most seven parameters of " + name, method.getParameterCount() <= 7);
                check.isTrue("a name of its own: " + name, one == ReedSets.class || !face.contains(name));
            }
        }
    }
}
