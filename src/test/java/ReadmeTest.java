import java.io.IOException;
import java.lang.reflect.Method;
import java.lang.reflect.Modifier;
import java.nio.file.DirectoryStream;
import java.nio.file.Files;
import java.nio.file.Path;
import java.util.Arrays;
import java.util.Set;
import java.util.TreeSet;
import java.util.regex.Matcher;
import java.util.regex.Pattern;

/** README.md: its calls answer as it says, and it names every call and every test. */
public final class ReadmeTest {
    private static final Pattern EXAMPLE = Pattern.compile("```java\n(.*?)```", Pattern.DOTALL);
    private static final Pattern MAKING = Pattern.compile("SealedWire x = new SealedWire\\((\\d+)\\);");
    private static final Pattern CALL = Pattern.compile("x\\.(\\w+)\\((.*?)\\); +// (-?\\d+): .*");
    private static final Pattern ROW = Pattern.compile("\\| \\d+ \\| `(\\w+)\\((.*?)\\)` \\|");
    private static final Pattern CONSTANT = Pattern.compile("\\| `([A-Z]+)` \\| (-\\d) \\|");
    private static final Pattern TEST = Pattern.compile("`(\\w+Test)`");

    public static void main(String[] args) throws IOException, ReflectiveOperationException {
        String text = Files.readString(Path.of("README.md"));
        examples(text);
        everyCall(text);
        everyConstant(text);
        everyTest(text);
        Check.end();
    }

    private static void examples(String text) throws ReflectiveOperationException {
        Matcher example = EXAMPLE.matcher(text);
        int found = 0;
        while (example.find()) {
            found++;
            play(example.group(1).split("\n"));
        }
        Check.due("examples", found, 1);
    }

    private static void play(String[] lines) throws ReflectiveOperationException {
        SealedWire x = null;
        for (String line : lines) {
            Matcher making = MAKING.matcher(line);
            Matcher call = CALL.matcher(line);
            if (making.matches()) {
                x = new SealedWire(Integer.parseInt(making.group(1)));
            } else if (call.matches()) {
                Check.due(line, answer(x, call.group(1), call.group(2)), Integer.parseInt(call.group(3)));
            } else {
                Check.due("a line that is no call", line, "");
            }
        }
    }

    private static int answer(SealedWire x, String name, String given) throws ReflectiveOperationException {
        Object[] numbers = parts(given).map(Integer::decode).toArray();
        Class<?>[] types = new Class<?>[numbers.length];
        Arrays.fill(types, int.class);
        return (Integer) SealedWire.class.getMethod(name, types).invoke(x, numbers);
    }

    private static java.util.stream.Stream<String> parts(String list) {
        return Arrays.stream(list.split(", ")).filter(part -> !part.isEmpty());
    }

    private static void everyCall(String text) {
        Set<String> due = new TreeSet<>(Set.of("SealedWire 1"));
        for (Method method : SealedWire.class.getDeclaredMethods()) {
            if (Modifier.isPublic(method.getModifiers())) {
                due.add(method.getName() + " " + method.getParameterCount());
            }
        }
        Set<String> told = new TreeSet<>();
        Matcher row = ROW.matcher(text);
        while (row.find()) {
            told.add(row.group(1) + " " + parts(row.group(2)).count());
        }
        Check.due("calls and how many numbers they take", told.toString(), due.toString());
    }

    private static void everyConstant(String text) throws ReflectiveOperationException {
        Matcher constant = CONSTANT.matcher(text);
        int found = 0;
        while (constant.find()) {
            found++;
            int value = SealedWire.class.getField(constant.group(1)).getInt(null);
            Check.due(constant.group(1), Integer.parseInt(constant.group(2)), value);
        }
        Check.due("constants", found, 5);
    }

    private static void everyTest(String text) throws IOException {
        Set<String> due = new TreeSet<>();
        try (DirectoryStream<Path> files = Files.newDirectoryStream(Path.of("src/test/java"), "*Test.java")) {
            for (Path file : files) {
                due.add(file.getFileName().toString().replace(".java", ""));
            }
        }
        Set<String> told = new TreeSet<>();
        Matcher test = TEST.matcher(text);
        while (test.find()) {
            told.add(test.group(1));
        }
        Check.due("tests", told.toString(), due.toString());
    }
}
