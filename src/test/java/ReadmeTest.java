import java.io.IOException;
import java.lang.reflect.Field;
import java.lang.reflect.Method;
import java.lang.reflect.Modifier;
import java.nio.file.DirectoryStream;
import java.nio.file.Files;
import java.nio.file.Path;
import java.util.Set;
import java.util.TreeSet;
import java.util.regex.Matcher;
import java.util.regex.Pattern;

/** What README.md says by name and number is so: its example, its calls, its answers below 0, its tests. */
public final class ReadmeTest {
    private static final Pattern EXAMPLE = Pattern.compile("(?m)^files\\.(\\w+\\(.*\\)); +// (-?\\w+)");
    private static final Pattern CALL = Pattern.compile("(?m)^\\| `(\\w+)\\((.*?)\\)` \\|");
    private static final Pattern ANSWER = Pattern.compile("(?m)^\\| `(\\w+)` \\| (-\\d+) \\|");
    private static final Pattern TEST = Pattern.compile("(?m)^\\| `(\\w+Test)` \\|");

    public static void main(String[] args) throws IOException {
        String text = Files.readString(Path.of("README.md"));
        example(text);
        calls(text);
        answers(text);
        tests(text);
        Due.end();
    }

    private static void example(String text) {
        Rows rows = new Rows("README's example");
        Matcher line = EXAMPLE.matcher(text);
        int found = 0;
        while (line.find()) {
            rows.row(line.group(1) + " = " + line.group(2));
            found++;
        }
        Due.due("that README has an example", found > 0);
    }

    private static void calls(String text) {
        Set<String> said = new TreeSet<>();
        Matcher line = CALL.matcher(text);
        while (line.find()) {
            said.add(line.group(1) + " with " + (line.group(2).isEmpty() ? 0 : line.group(2).split(",").length));
        }
        Set<String> there = new TreeSet<>();
        for (Method method : ExtentFiles.class.getDeclaredMethods()) {
            if (Modifier.isPublic(method.getModifiers())) {
                there.add(method.getName() + " with " + method.getParameterCount());
            }
        }
        same("calls", said, there);
    }

    private static void answers(String text) {
        Set<String> said = new TreeSet<>();
        Matcher line = ANSWER.matcher(text);
        while (line.find()) {
            said.add(line.group(1) + " = " + line.group(2));
        }
        Set<String> there = new TreeSet<>();
        for (Field field : ExtentFiles.class.getFields()) {
            there.add(field.getName() + " = " + valueOf(field));
        }
        same("answers below 0", said, there);
    }

    private static int valueOf(Field field) {
        try {
            return field.getInt(null);
        } catch (IllegalAccessException wrong) {
            throw new IllegalStateException(wrong);
        }
    }

    private static void tests(String text) throws IOException {
        Set<String> said = new TreeSet<>();
        Matcher line = TEST.matcher(text);
        while (line.find()) {
            said.add(line.group(1) + ".java");
        }
        Set<String> there = new TreeSet<>();
        try (DirectoryStream<Path> files = Files.newDirectoryStream(Path.of("src/test/java"), "*Test.java")) {
            files.forEach(file -> there.add(file.getFileName().toString()));
        }
        same("tests", said, there);
    }

    private static void same(String what, Set<String> said, Set<String> there) {
        Due.due("that README's " + what + " " + said + " are those there are, " + there, said.equals(there));
    }
}
