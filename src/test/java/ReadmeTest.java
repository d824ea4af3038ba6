import java.io.IOException;
import java.lang.reflect.Method;
import java.lang.reflect.Modifier;
import java.nio.ByteBuffer;
import java.nio.charset.StandardCharsets;
import java.nio.file.Files;
import java.nio.file.Path;
import java.util.Arrays;
import java.util.List;
import java.util.regex.Matcher;
import java.util.regex.Pattern;

/** README.md says how to use the class: its example answers as it says, and it names each call and each test. */
public final class ReadmeTest {
    private static final Pattern CALL = Pattern.compile("x\\.(\\w+)\\(([-0-9, ]*)\\); +// (-?\\d+|true|false)[:\\s].*");
    private static final Pattern BRING = Pattern.compile("bring\\(x, \"(.*)\"\\);");
    private static int wrong;
    private static int answers;

    public static void main(String[] args) throws IOException, ReflectiveOperationException {
        Path root = Path.of(args[0]).toAbsolutePath().getParent().getParent().getParent().getParent();
        Path tests = root.resolve("src/test/java");
        String page = Files.readString(root.resolve("README.md"));
        Matcher blocks = Pattern.compile("(?s)```java\n(.*?)```").matcher(page);
        must(blocks.find(), "no helper");
        must(plain(Files.readString(tests.resolve("ReadmeTest.java"))).contains(plain(blocks.group(1))), "the helper is not as here");
        must(blocks.find(), "no example");
        WashingLines x = new WashingLines();
        for (String line : blocks.group(1).split("\n")) {
            follow(x, line);
        }
        must(answers >= 12, "few answers: " + answers);
        calls(page);
        names(page, tests);
        must(page.contains("\n    .ci/run\n") && Files.isExecutable(root.resolve(".ci/run")), "no command that runs the tests");
        System.out.println(wrong == 0 ? "the page is right" : wrong + " faults");
        if (wrong != 0) {
            System.exit(1);
        }
    }

    private static void must(boolean holds, String what) {
        if (!holds) {
            wrong++;
            System.out.println("README.md: " + what);
        }
    }

    private static String plain(String text) {
        return text.replaceAll("\\s+", " ");
    }

    static void bring(WashingLines x, String text) {
        byte[] bytes = text.getBytes(StandardCharsets.ISO_8859_1);
        ByteBuffer rows = ByteBuffer.wrap(Arrays.copyOf(bytes, (bytes.length + 19) / 20 * 20));
        x.end(0);
        while (rows.hasRemaining()) {
            x.feed(rows.getInt(), rows.getInt(), rows.getInt(), rows.getInt(), rows.getInt());
        }
        x.end(bytes.length);
    }

    /** Does what a line of the example says. */
    private static void follow(WashingLines x, String line) throws ReflectiveOperationException {
        Matcher text = BRING.matcher(line);
        Matcher call = CALL.matcher(line);
        if (text.matches()) {
            bring(x, text.group(1));
        } else if (call.matches()) {
            String[] words = call.group(2).isEmpty() ? new String[0] : call.group(2).split(", ");
            Class<?>[] types = new Class<?>[words.length];
            Arrays.fill(types, int.class);
            Object[] numbers = Arrays.stream(words).map(Integer::valueOf).toArray();
            Object got = WashingLines.class.getMethod(call.group(1), types).invoke(x, numbers);
            answers++;
            must(got.toString().equals(call.group(3)), line + " answered " + got);
        } else {
            must(line.equals("WashingLines x = new WashingLines();"), "a line that can't be followed: " + line);
        }
    }

    private static void calls(String page) {
        for (Method call : WashingLines.class.getDeclaredMethods()) {
            if (Modifier.isPublic(call.getModifiers())) {
                String numbers = "\\w+, ".repeat(call.getParameterCount()).replaceAll(", $", "");
                Matcher row = Pattern.compile("\\| `" + call.getName() + "\\(" + numbers + "\\)` \\|").matcher(page);
                must(row.find() && !row.find(), "not one row for " + call.getName());
            }
        }
    }

    private static void names(String page, Path tests) throws IOException {
        try (var files = Files.list(tests)) {
            List<String> names = files.map(f -> f.getFileName().toString().replace(".java", "")).toList();
            for (String name : names) {
                must(!name.endsWith("Test") || page.contains("- `" + name + "`: "), "no word of " + name);
            }
        }
    }
}
