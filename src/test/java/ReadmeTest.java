import java.lang.reflect.InvocationTargetException;
import java.nio.file.Files;
import java.nio.file.Path;
import java.util.ArrayList;
import java.util.Arrays;
import java.util.List;
import java.util.regex.Matcher;
import java.util.regex.Pattern;

/** The calls that README.md shows answer what it says behind them, and the commands it names are there to be run. */
final class ReadmeTest {
    private static final Path README = Path.of("README.md");
    private static final Pattern ROW = Pattern.compile("forest\\.(\\w+)\\((.*)\\);\\s*// (-?\\d+)(:.*)?");
    private static final Check check = new Check();

    public static void main(String[] args) throws Exception {
        String readme = Files.readString(README);
        shownCalls(block(readme, "java"));
        commands(readme);
        words(readme);
        check.end();
    }

    private static String block(String readme, String language) {
        Matcher found = Pattern.compile("```" + language + "\n(.*?)```", Pattern.DOTALL).matcher(readme);
        return found.find() ? found.group(1) : "";
    }

    private static void shownCalls(String block) throws Exception {
        List<String> rows = Arrays.asList(block.split("\n"));
        check.due("README.md begins with a new object", rows.get(0), "ForestLegs forest = new ForestLegs();");
        ForestLegs forest = new ForestLegs();
        int calls = 0;
        for (String row : rows.subList(1, rows.size())) {
            if (row.startsWith("//")) {
                continue;
            }
            Matcher call = ROW.matcher(row);
            check.due("README.md: a call with its answer, " + row, call.matches() ? 1 : 0, 1);
            if (call.matches()) {
                check.due("README.md: " + row, answer(forest, call.group(1), call.group(2)), Long.parseLong(call.group(3)));
                calls++;
            }
        }
        check.due("README.md shows calls", calls > 15 ? 1 : 0, 1);
    }

    private static int answer(ForestLegs forest, String name, String list) throws ReflectiveOperationException {
        List<Object> values = new ArrayList<>();
        List<Class<?>> types = new ArrayList<>();
        for (String value : list.isEmpty() ? new String[0] : list.split(", ")) {
            boolean truth = value.equals("true") || value.equals("false");
            types.add(truth ? boolean.class : int.class);
            values.add(truth ? (Object) Boolean.valueOf(value) : (Object) Integer.decode(value));
        }
        try {
            return (Integer) ForestLegs.class.getMethod(name, types.toArray(new Class<?>[0])).invoke(forest, values.toArray());
        } catch (InvocationTargetException e) {
            throw new IllegalStateException(name + " of README.md threw", e.getCause());
        }
    }

    /** Each file that a command of README.md names is there. */
    private static void commands(String readme) {
        int named = 0;
        Matcher block = Pattern.compile("```sh\n(.*?)```", Pattern.DOTALL).matcher(readme);
        while (block.find()) {
            for (String part : block.group(1).trim().split("\\s+")) {
                if (part.endsWith(".java") && !part.contains("*") || part.equals(".ci/run")) {
                    check.due("README.md: " + part + " is there", Files.exists(Path.of(part)) ? 1 : 0, 1);
                    named++;
                }
            }
        }
        check.due("README.md: files in commands", named, 4);
        check.due("README.md: .ci/run can be run", Files.isExecutable(Path.of(".ci/run")) ? 1 : 0, 1);
        check.due("README.md: one test alone", readme.contains("src/test/java/*.java && java -cp") ? 1 : 0, 1);
    }

    /** Each TROUBLE has its row, and each test that is named is there. */
    private static void words(String readme) {
        for (int trouble = 0; trouble <= 6; trouble++) {
            check.due("README.md: a row for trouble " + trouble, readme.contains("\n| " + trouble + " | ") ? 1 : 0, 1);
        }
        Matcher test = Pattern.compile("`(\\w+Test)`").matcher(readme);
        while (test.find()) {
            Path file = Path.of("src/test/java/" + test.group(1) + ".java");
            check.due("README.md: " + test.group(1) + " is there", Files.exists(file) ? 1 : 0, 1);
        }
    }
}
