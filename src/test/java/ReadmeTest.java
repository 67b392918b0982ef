import java.io.IOException;
import java.lang.reflect.Method;
import java.nio.file.Files;
import java.nio.file.Path;
import java.util.List;
import java.util.TreeSet;
import java.util.regex.Matcher;
import java.util.regex.Pattern;
import java.util.stream.Collectors;
import java.util.stream.Stream;

/** README.md tells what is so: the answers of its example, the calls of the face, the tests that there are. */
public final class ReadmeTest {
    private static final Pattern TEXT = Pattern.compile("char sign : \"([^\"]+)\"");
    private static final Pattern ANSWERED = Pattern.compile("x\\.(\\w+)\\(([\\d, ]*)\\); +// (-?\\d+)");

    public static void main(String[] args) throws IOException, ReflectiveOperationException {
        String page = Files.readString(Path.of("README.md"));
        example(page);
        everyCall(page);
        everyTest(page);
        Due.end("ReadmeTest");
    }

    private static long ask(FloorOfProofs x, String call, String numbers) throws ReflectiveOperationException {
        List<Integer> given = Pattern.compile("\\d+").matcher(numbers).results()
                .map(found -> Integer.parseInt(found.group())).collect(Collectors.toList());
        Class<?>[] types = given.stream().map(one -> int.class).toArray(Class<?>[]::new);
        Method method = FloorOfProofs.class.getMethod(call, types);
        return ((Number) method.invoke(x, given.toArray())).longValue();
    }

    private static void example(String page) throws ReflectiveOperationException {
        Matcher text = TEXT.matcher(page);
        Due.due("the example's text is found", text.find() ? 1 : 0, 1);
        FloorOfProofs x = new FloorOfProofs();
        Due.write(x, text.group(1));
        Due.due("fault() of the example", x.fault(), Due.NONE);
        int answers = 0;
        for (Matcher line = ANSWERED.matcher(page); line.find(); answers++) {
            long want = Long.parseLong(line.group(3));
            Due.due(line.group(), ask(x, line.group(1), line.group(2)), want);
        }
        Due.due("answers told in the example", answers, 4);
    }

    private static void everyCall(String page) {
        for (Method method : FloorOfProofs.class.getMethods()) {
            if (method.getDeclaringClass() == FloorOfProofs.class) {
                String name = "`" + method.getName() + "`";
                Due.due("told: " + name, page.contains(name) ? 1 : 0, 1);
            }
        }
    }

    private static void everyTest(String page) throws IOException {
        TreeSet<String> told = new TreeSet<>();
        for (Matcher row = Pattern.compile("(?m)^\\| `(\\w+Test)` \\|").matcher(page); row.find(); ) {
            told.add(row.group(1));
        }
        try (Stream<Path> files = Files.list(Path.of("src/test/java"))) {
            TreeSet<String> there = files.map(file -> file.getFileName().toString().replace(".java", ""))
                    .filter(name -> name.endsWith("Test")).collect(Collectors.toCollection(TreeSet::new));
            Due.due("tests there are " + there + ", told " + told, told.equals(there) ? 1 : 0, 1);
        }
    }
}
