import java.io.IOException;
import java.nio.file.Files;
import java.nio.file.Path;
import java.util.regex.Matcher;
import java.util.regex.Pattern;

/** Those rules of LANGUAGE.md that the source's own words can show to be broken. */
public final class LanguageTest {
    private static final Check check = new Check();
    private static final String[] BANNED = {
        "throw", "throws", "try", "catch", "finally", "synchronized", "assert", "package", "protected", "native", "volatile",
        "transient", "Object", "System\\.(?!arraycopy\\b)\\w+", "Math\\.\\w+Exact", "hashCode", "toString", "equals", "->",
        "::", "Random", "Thread", "static\\s*\\{", "while\\s*\\(\\s*true", "for\\s*\\(\\s*;"
    };

    public static void main(String[] args) throws IOException {
        String source = Files.readString(Path.of("src/main/java/ReedSets.java"));
        String bare = source.replaceAll("(?s)/\\*.*?\\*/", " ").replaceAll("//[^\n]*", " ");
        for (String word : BANNED) {
            String pattern = Character.isLetter(word.charAt(0)) ? "\\b" + word : word;
            Matcher found = Pattern.compile(pattern + (word.matches("\\w+") ? "\\b" : "")).matcher(bare);
            check.isTrue("not in the program: " + word, !found.find());
        }
        Matcher imports = Pattern.compile("import\\s+([\\w.*]+);").matcher(bare);
        while (imports.find()) {
            check.isTrue("import of " + imports.group(1), imports.group(1).matches("java\\.util\\.(Arrays|ArrayList|List)"));
        }
        check.isTrue("all is plain text", source.chars().allMatch(c -> c < 127));
        check.end();
    }
}
