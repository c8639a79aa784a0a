import java.io.IOException;
import java.lang.reflect.InvocationTargetException;
import java.lang.reflect.Method;
import java.nio.file.Files;
import java.nio.file.Path;
import java.util.ArrayList;
import java.util.List;
import java.util.Set;
import java.util.TreeSet;
import java.util.regex.Matcher;
import java.util.regex.Pattern;
import java.util.stream.Stream;

/** What README.md shows of calls and answers is what the class answers; it is run in the folder of the project. */
final class ReadmeTest {
    private static final String NEW = "TimetableBuilder x = new TimetableBuilder();";
    private static final Pattern CALL = Pattern.compile("x\\.(\\w+)\\((.*?)\\); +// (-?\\d+|true|false|\\w+Exception)(: .*)?");

    public static void main(String[] args) throws IOException {
        String text = Files.readString(Path.of("README.md"));
        examples(text);
        names(text);
        Check.end();
    }

    private static void examples(String text) {
        Matcher block = Pattern.compile("```java\n(.*?)```", Pattern.DOTALL).matcher(text);
        int calls = 0;
        while (block.find()) {
            TimetableBuilder x = null;
            for (String line : block.group(1).split("\n")) {
                Matcher call = CALL.matcher(line);
                if (line.equals(NEW)) {
                    x = new TimetableBuilder();
                } else if (call.matches() && x != null) {
                    Check.same(line, call.group(3), answer(x, call.group(1), call.group(2)));
                    calls++;
                } else {
                    Check.due("a call with its answer: " + line, true, line.isEmpty());
                }
            }
        }
        Check.due("README.md shows calls, at most 512", true, calls > 0 && calls <= 512);
    }

    private static String answer(TimetableBuilder x, String name, String list) {
        List<Object> values = new ArrayList<>();
        for (String value : list.isEmpty() ? new String[0] : list.split(", ")) {
            values.add(value.equals("true") || value.equals("false") ? (Object) Boolean.valueOf(value) : Integer.decode(value));
        }
        for (Method method : TimetableBuilder.class.getMethods()) {
            if (method.getName().equals(name) && method.getParameterCount() == values.size()) {
                return answer(x, method, values.toArray());
            }
        }
        return "no such method";
    }

    private static String answer(TimetableBuilder x, Method method, Object[] values) {
        try {
            return "" + method.invoke(x, values);
        } catch (InvocationTargetException e) {
            return e.getCause().getClass().getSimpleName();
        } catch (IllegalAccessException e) {
            return "" + e;
        }
    }

    /** Every method and every test has a word in README.md, and the table names no test that is not there. */
    private static void names(String text) throws IOException {
        for (Method method : TimetableBuilder.class.getDeclaredMethods()) {
            if (java.lang.reflect.Modifier.isPublic(method.getModifiers())) {
                Check.due("README.md tells of " + method.getName(), true, text.contains("`" + method.getName() + "`"));
            }
        }
        Set<String> there = new TreeSet<>();
        try (Stream<Path> files = Files.list(Path.of("src/test/java"))) {
            files.map(file -> file.getFileName().toString()).filter(name -> name.endsWith("Test.java"))
                .forEach(name -> there.add(name.replace(".java", "")));
        }
        Set<String> named = new TreeSet<>();
        Matcher row = Pattern.compile("(?m)^\\| (\\w+Test(, \\w+Test)*) \\|").matcher(text);
        while (row.find()) {
            named.addAll(List.of(row.group(1).split(", ")));
        }
        Check.same("the tests in the table", there.toString(), named.toString());
    }
}
