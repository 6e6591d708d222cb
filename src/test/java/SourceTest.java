import java.io.IOException;
import java.nio.file.Files;
import java.nio.file.Path;
import java.util.List;
import java.util.regex.Matcher;
import java.util.regex.Pattern;

/** Rules of LANGUAGE.md that can be read off the source's words. It is run from the project's folder. */
public final class SourceTest {
    private static final Path SOURCE = Path.of("src/main/java/ToteHouse.java");

    /** Words that the rules leave out, or that this class has no need of. */
    private static final List<String> WORDS = List.of("package", "protected", "throw", "throws", "try", "catch",
        "finally", "synchronized", "assert", "instanceof", "Object", "Float", "Double", "System\\.out", "Random",
        "equals", "hashCode", "toString", "native", "volatile", "var");

    public static void main(String[] args) throws IOException {
        String source = Files.readString(SOURCE);
        String code = withoutComments(source);
        for (String word : WORDS) {
            Expect.holds("no word " + word, !Pattern.compile("\\b" + word + "\\b").matcher(code).find());
        }
        Expect.holds("no lambda", !code.contains("->"));
        Expect.holds("no method reference", !code.contains("::"));
        Expect.holds("signs 1 to 127 alone", source.chars().allMatch(c -> c >= 1 && c <= 127));
        imports(code);
        methodsAreShort(code);
        Expect.end();
    }

    private static String withoutComments(String source) {
        return source.replaceAll("(?s)/\\*.*?\\*/", "").replaceAll("//[^\n]*", "");
    }

    private static void imports(String code) {
        Matcher line = Pattern.compile("import ([^;]*);").matcher(code);
        while (line.find()) {
            Expect.due("import " + line.group(1), line.group(1).equals("java.util.Arrays") ? 1 : 0, 1);
        }
    }

    /** A method's first line ends with ") {", its last is a brace of the same indentation. */
    private static void methodsAreShort(String code) {
        String[] lines = code.split("\n");
        int methods = 0;
        for (int i = 0; i < lines.length; i++) {
            Matcher head = Pattern.compile("^( {4}| {8})[a-zA-Z].*\\) \\{$").matcher(lines[i]);
            if (head.find() && !lines[i].matches("^ +(if|for|while|switch) .*")) {
                int end = i;
                while (!lines[end].equals(head.group(1) + "}")) {
                    end++;
                }
                methods++;
                Expect.holds(lines[i].trim() + " has at most sixty lines", end - i < 60);
            }
        }
        Expect.holds("methods were found", methods > 100);
    }
}
