import java.io.IOException;
import java.nio.file.Files;
import java.nio.file.Path;
import java.util.List;
import java.util.regex.Matcher;
import java.util.regex.Pattern;

/** What of LANGUAGE.md can be seen in the program's text: its imports, the words that it rules out, sizes. */
public final class LanguageTest {
    private static final Checks CHECKS = new Checks();
    private static final List<String> IMPORTS = List.of("java.util.Arrays", "java.util.NoSuchElementException");
    private static final String RULED_OUT = "->|::|\\b(catch|try|finally|synchronized|assert|protected|package|native"
            + "|volatile|transient|System\\.out|Random|Thread|\\w+Exact|double|float|Object|hashCode|toString)\\b"
            + "|static\\s*\\{";

    public static void main(String[] args) throws IOException {
        String source = Files.readString(Path.of("src/main/java/EndgameHouse.java"));
        String code = source.replaceAll("(?s)/\\*.*?\\*/", " ").replaceAll("//[^\n]*", " ").replaceAll("\"[^\"]*\"", "\"\"");
        Matcher imports = Pattern.compile("import ([^;]+);").matcher(code);
        while (imports.find()) {
            CHECKS.yes("rule 4: import " + imports.group(1), IMPORTS.contains(imports.group(1)));
        }
        Matcher words = Pattern.compile(RULED_OUT).matcher(code);
        CHECKS.no("rules 2 to 6, 13: no " + (words.find() ? words.group() : ""), words.reset().find());
        Matcher thrown = Pattern.compile("throw (?!new NoSuchElementException\\(\"\"\\))").matcher(code);
        CHECKS.no("rule 6: what is thrown is the document's", thrown.find());
        methodSizes(source);
        CHECKS.end();
    }

    private static void methodSizes(String source) {
        Pattern methods = Pattern.compile("(?m)^( {4}| {8})(?:\\w+ )*[\\w\\[\\]]+ ?(\\w*)\\(([^)]*)\\)[^;{]*\\{\n(?s)(.*?)^\\1\\}");
        Matcher each = methods.matcher(source);
        int seen = 0;
        while (each.find()) {
            seen++;
            CHECKS.yes("rule 11: seven parameters at most: " + each.group(2), each.group(3).split(",").length <= 7);
            CHECKS.yes("rule 11: sixty lines at most: " + each.group(2), each.group(4).lines().count() <= 60);
        }
        CHECKS.yes("methods were found", seen > 60);
    }
}
