import java.io.IOException;
import java.lang.reflect.Field;
import java.lang.reflect.Method;
import java.lang.reflect.Modifier;
import java.nio.file.Files;
import java.nio.file.Path;
import java.util.Arrays;
import java.util.Set;
import java.util.TreeSet;
import java.util.regex.Matcher;
import java.util.regex.Pattern;

/** README.md: its calls answer as it shows, and it leaves out no call and no constant. */
public final class ReadmeTest {
    private static final Due due = new Due();

    public static void main(String[] args) throws IOException, ReflectiveOperationException {
        String text = Files.readString(Path.of("README.md"));
        exampleAnswersAsShown(text);
        allCallsAreTold(text);
        allRefusalsAreTold(text);
        allTestsAreTold(text);
        due.end();
    }

    private static void exampleAnswersAsShown(String text) throws ReflectiveOperationException {
        Story story = new Story(due, "README.md, the example");
        Matcher shown = Pattern.compile("(?m)^store\\.(\\w+)\\((.*)\\); +// (-?\\w+): ")
                .matcher(text);
        int found = 0;
        while (shown.find()) {
            story.is(answer(shown.group(3)), shown.group(1), numbers(shown.group(2)));
            found++;
        }
        int lines = (int) text.lines().filter(line -> line.startsWith("store.")).count();
        due.is("lines of the example that show an answer", found, lines);
        due.holds("there is an example", lines > 0);
    }

    private static int[] numbers(String shown) {
        return Arrays.stream(shown.split(", *")).filter(number -> !number.isEmpty())
                .mapToInt(Integer::parseInt).toArray();
    }

    private static int answer(String shown) throws ReflectiveOperationException {
        boolean number = shown.matches("-?\\d+");
        return number ? Integer.parseInt(shown) : RevisionedKeys.class.getField(shown).getInt(null);
    }

    private static void allCallsAreTold(String text) {
        Set<String> told = new TreeSet<>();
        Matcher rows = Pattern.compile("(?m)^\\| `(\\w+)\\((.*?)\\)` \\|").matcher(text);
        while (rows.find()) {
            String args = rows.group(2);
            told.add(rows.group(1) + "/" + (args.isEmpty() ? 0 : args.split(",").length));
        }
        Set<String> there = new TreeSet<>();
        for (Method method : RevisionedKeys.class.getDeclaredMethods()) {
            if (Modifier.isPublic(method.getModifiers())) {
                there.add(method.getName() + "/" + method.getParameterCount());
            }
        }
        same("the calls", told, there);
    }

    private static void allRefusalsAreTold(String text) {
        Set<String> there = new TreeSet<>();
        for (Field field : RevisionedKeys.class.getFields()) {
            there.add(field.getName());
        }
        same("the constants", rowsNamed(text, "[A-Z_]+"), there);
    }

    private static void allTestsAreTold(String text) throws IOException {
        Set<String> there = new TreeSet<>();
        try (var files = Files.list(Path.of("src/test/java"))) {
            files.map(file -> file.getFileName().toString())
                    .filter(name -> name.endsWith("Test.java"))
                    .forEach(name -> there.add(name.replace(".java", "")));
        }
        same("the tests", rowsNamed(text, "\\w+Test"), there);
    }

    private static Set<String> rowsNamed(String text, String name) {
        Set<String> named = new TreeSet<>();
        Matcher rows = Pattern.compile("(?m)^\\| `(" + name + ")` \\|").matcher(text);
        while (rows.find()) {
            named.add(rows.group(1));
        }
        return named;
    }

    private static void same(String what, Set<String> told, Set<String> there) {
        due.about("README.md, " + what);
        due.holds("told are " + told + ", there are " + there, told.equals(there));
    }
}
