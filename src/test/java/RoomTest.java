import java.io.IOException;
import java.lang.reflect.Array;
import java.lang.reflect.Field;
import java.lang.reflect.Modifier;
import java.nio.file.Files;
import java.nio.file.Path;
import java.util.Collections;
import java.util.HashSet;
import java.util.IdentityHashMap;
import java.util.Set;
import java.util.regex.Matcher;
import java.util.regex.Pattern;

/** All calls of a run live in one room: an object is small, and no call makes another object or array. */
public final class RoomTest {
    private static final Check check = new Check();
    private static final int MOST_OBJECTS = 60;
    private static final int MOST_ELEMENTS = 20000;

    public static void main(String[] args) throws IOException, IllegalAccessException {
        size();
        source();
        check.end();
    }

    private static void size() throws IllegalAccessException {
        Set<Object> parts = Collections.newSetFromMap(new IdentityHashMap<>());
        long elements = walk(new ReedSets(), parts);
        check.isTrue("objects and arrays: " + parts.size(), parts.size() <= MOST_OBJECTS);
        check.isTrue("fields and elements: " + elements, elements <= MOST_ELEMENTS);
    }

    /** How many fields and elements there are in what was not seen before. */
    private static long walk(Object part, Set<Object> seen) throws IllegalAccessException {
        if (part == null || !seen.add(part)) {
            return 0;
        }
        if (part.getClass().isArray()) {
            check.isTrue("arrays hold numbers alone", part.getClass().getComponentType().isPrimitive());
            return Array.getLength(part);
        }
        long many = 0;
        for (Field field : part.getClass().getDeclaredFields()) {
            if (!Modifier.isStatic(field.getModifiers())) {
                field.setAccessible(true);
                many += 1 + (field.getType().isPrimitive() ? 0 : walk(field.get(part), seen));
            }
        }
        return many;
    }

    /** What is new goes into final fields alone, which no method but a constructor can set. */
    private static void source() throws IOException {
        String text = Files.readString(Path.of("src/main/java/ReedSets.java"));
        Set<String> finals = new HashSet<>();
        Matcher field = Pattern.compile("(?m)^ +(?:private )?final [\\w\\[\\]]+ (\\w+)(?: = .*)?;$").matcher(text);
        while (field.find()) {
            finals.add(field.group(1));
        }
        for (String line : text.split("\n")) {
            Matcher made = Pattern.compile("(\\w+) = new \\w+[(\\[][^;]*;").matcher(line);
            boolean isKept = made.find() && finals.contains(made.group(1));
            boolean isLocal = line.matches(" +(?!private|final)[\\w\\[\\]]+ \\w+ = new .*");
            check.isTrue("made in a constructor: " + line, !line.matches(".*\\bnew\\b.*") || (isKept && !isLocal));
            check.isTrue("makes nothing: " + line, !line.matches(".*\\b(copyOf\\w*|clone|String\\w*|\\w*List)\\b.*"));
        }
    }
}
