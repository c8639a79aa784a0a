import java.io.IOException;
import java.nio.file.Files;
import java.nio.file.Path;
import java.util.List;
import java.util.regex.Matcher;
import java.util.regex.Pattern;

/** Rules of LANGUAGE.md that the text of the class shows; it is run in the folder of the project. */
final class LanguageTest {
    private static final Path FILE = Path.of("src/main/java/TimetableBuilder.java");

    /** Words that the rules leave out; throw is left in, for the exceptions that the document names. */
    private static final String[] RULED_OUT = {"\\btry\\b", "\\bcatch\\b", "\\bfinally\\b", "\\bsynchronized\\b",
        "\\bassert\\b", "->", "::", "\\bpackage\\b", "Exact\\b", "\\bequals\\b", "\\bhashCode\\b", "\\bSystem\\.(?!arraycopy)",
        "\\bThread\\b", "\\bRandom\\b", "\\?\\s*extends", "\\bfloat\\b", "\\bdouble\\b", "while \\(true\\)", "for \\(;;\\)"};

    public static void main(String[] args) throws IOException {
        List<String> lines = Files.readAllLines(FILE);
        StringBuilder code = new StringBuilder();
        for (String line : lines) {
            String bare = line.replaceAll("\"[^\"]*\"", "\"\"").replaceAll("^\\s*(/\\*\\*|\\*|//).*", "");
            code.append(bare).append('\n');
            Check.due("a line has 1 to 127 alone: " + line, true, line.chars().allMatch(c -> c >= 1 && c <= 127));
        }
        for (String word : RULED_OUT) {
            Check.due("ruled out: " + word, false, Pattern.compile(word).matcher(code).find());
        }
        imports(code.toString());
        thrown(code.toString());
        lengths(code.toString().split("\n"));
        Check.end();
    }

    private static void imports(String code) {
        Matcher found = Pattern.compile("import ([\\w.]+);").matcher(code);
        while (found.find()) {
            Check.due("import " + found.group(1), true,
                List.of("java.util.Arrays", "java.util.NoSuchElementException").contains(found.group(1)));
        }
    }

    private static void thrown(String code) {
        Matcher found = Pattern.compile("\\bthrow\\b(.*)").matcher(code);
        while (found.find()) {
            Check.due("throw" + found.group(1), true, found.group(1).matches(" new (IndexOutOfBounds|IllegalArgument|"
                + "IllegalState|UnsupportedOperation|NoSuchElement)Exception\\(.*\\);"));
        }
    }

    private static void lengths(String[] lines) {
        int from = -1;
        for (int i = 0; i < lines.length; i++) {
            if (lines[i].matches(" {4}( {4})?(\\w[^=;]*)\\(.*") && !lines[i].contains(" class ")) {
                from = i;
            }
            if (lines[i].matches(" {4}( {4})?\\}") && from >= 0) {
                Check.due("the method at line " + (from + 1) + " is short", true, i - from + 1 <= 60);
                from = -1;
            }
        }
    }
}
