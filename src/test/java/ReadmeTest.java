import java.io.IOException;
import java.lang.reflect.Method;
import java.lang.reflect.Modifier;
import java.nio.file.DirectoryStream;
import java.nio.file.Files;
import java.nio.file.Path;
import java.util.Arrays;
import java.util.Map;
import java.util.Set;
import java.util.TreeSet;
import java.util.regex.Matcher;
import java.util.regex.Pattern;

/** What README.md tells of the class: each call of its example with the answer behind it. */
public final class ReadmeTest {
    private static final Pattern CALL = Pattern.compile("x\\.(\\w+)\\((.*?)\\); *// (-?\\w+).*");
    private static final Map<String, Integer> CODES = Map.of(
        "BAD_ARG", SeriesCodec.BAD_ARG, "FULL", SeriesCodec.FULL, "NONE", SeriesCodec.NONE);

    private static final Check check = new Check();

    public static void main(String[] args) throws IOException, ReflectiveOperationException {
        String text = Files.readString(Path.of("README.md"));
        Set<String> called = example(text.split("```java\n")[1].split("```")[0]);
        everyCallIsTold(text, called);
        everyTestIsTold(text);
        check.finish();
    }

    private static Set<String> example(String lines) throws ReflectiveOperationException {
        Set<String> called = new TreeSet<>();
        SeriesCodec x = new SeriesCodec();
        for (String line : lines.split("\n")) {
            if (line.equals("SeriesCodec x = new SeriesCodec();")) {
                x = new SeriesCodec();
                continue;
            }
            Matcher call = CALL.matcher(line);
            boolean read = call.matches();
            check.holds("a call with its answer: " + line, read);
            if (read) {
                check.due(line, answer(x, call.group(1), call.group(2)), due(call.group(3)));
                called.add(call.group(1));
            }
        }
        return called;
    }

    private static int answer(SeriesCodec x, String name, String numbers) throws ReflectiveOperationException {
        Object[] given = numbers.isEmpty() ? new Object[0]
            : Arrays.stream(numbers.split(", ")).map(Integer::valueOf).toArray();
        Class<?>[] types = new Class<?>[given.length];
        Arrays.fill(types, int.class);
        return (int) SeriesCodec.class.getMethod(name, types).invoke(x, given);
    }

    private static int due(String word) {
        Integer code = CODES.get(word);
        return code != null ? code : Integer.parseInt(word);
    }

    private static void everyCallIsTold(String text, Set<String> called) {
        for (Method method : SeriesCodec.class.getDeclaredMethods()) {
            if (Modifier.isPublic(method.getModifiers())) {
                String name = method.getName();
                check.holds("the example has " + name, called.contains(name));
                check.holds("a table has " + name, text.contains("`" + name + "("));
            }
        }
    }

    private static void everyTestIsTold(String text) throws IOException {
        try (DirectoryStream<Path> tests = Files.newDirectoryStream(Path.of("src/test/java"), "*Test.java")) {
            for (Path test : tests) {
                String name = test.getFileName().toString().replace(".java", "");
                check.holds("the table of tests has " + name, text.contains("\n| " + name + " |"));
            }
        }
    }
}
