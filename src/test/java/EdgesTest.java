import java.io.IOException;
import java.lang.reflect.InvocationTargetException;
import java.lang.reflect.Method;
import java.nio.file.Files;
import java.nio.file.Path;
import java.util.ArrayList;
import java.util.Comparator;
import java.util.List;

/**
 * Runs every test that names a sentence of the document, and sees that these sentences stand there, under the promise that
 * is named or ahead of all promises, and that no promise is without one. With 'left' behind the program's path it
 * tells what words of the document no test names.
 */
public final class EdgesTest {
    private static final List<Class<?>> GROUPS =
        List.of(CourtEdges.class, RuleEdges.class, ActEdges.class, AskEdges.class, KeptEdges.class);
    private static final int PROMISES = 35;

    public static void main(String[] args) throws IOException, IllegalAccessException {
        Path root = Path.of(args[0]).toAbsolutePath().getParent().getParent().getParent().getParent();
        String[] parts = Files.readString(root.resolve("../shared/DOC.md")).split("## Promise [0-9]+: ");
        List<Method> tests = tests();
        int wrong = wrongNames(tests, parts);
        for (Method test : tests) {
            wrong += wrongAnswers(test);
        }
        if (args.length > 1) {
            tellLeft(tests, parts);
        }
        System.out.println(tests.size() + " sentences tried, " + wrong + " faults");
        if (wrong != 0) {
            System.exit(1);
        }
    }

    private static List<Method> tests() {
        List<Method> tests = new ArrayList<>();
        for (Class<?> group : GROUPS) {
            for (Method method : group.getDeclaredMethods()) {
                if (method.isAnnotationPresent(Sentence.class)) {
                    tests.add(method);
                }
            }
        }
        tests.sort(Comparator.comparingInt((Method m) -> sentence(m).promise()).thenComparing(Method::getName));
        return tests;
    }

    private static Sentence sentence(Method test) {
        return test.getAnnotation(Sentence.class);
    }

    private static String plain(String text) {
        return text.replaceAll("\\s+", " ");
    }

    private static int wrongNames(List<Method> tests, String[] parts) {
        boolean[] named = new boolean[PROMISES + 1];
        int wrong = parts.length == PROMISES + 1 ? 0 : 1;
        for (Method test : tests) {
            int promise = sentence(test).promise();
            String words = plain(sentence(test).words());
            named[promise] = true;
            if (!plain(parts[0]).contains(words) && !plain(parts[promise]).contains(words)) {
                wrong++;
                System.out.println(test.getName() + ": the document does not say: " + words);
            }
        }
        for (int promise = 1; promise <= PROMISES; promise++) {
            if (!named[promise]) {
                wrong++;
                System.out.println("no test names promise " + promise);
            }
        }
        return wrong;
    }

    private static int wrongAnswers(Method test) throws IllegalAccessException {
        Edge edge = new Edge("promise " + sentence(test).promise() + ", '" + sentence(test).words() + "'");
        try {
            test.invoke(null, edge);
        } catch (InvocationTargetException thrown) {
            System.out.println(test.getName() + ": " + thrown.getCause());
            return 1;
        }
        return edge.tried() == 0 ? 1 : edge.wrong();
    }

    private static void tellLeft(List<Method> tests, String[] parts) {
        for (int part = 0; part < parts.length; part++) {
            String left = plain(parts[part]);
            for (Method test : tests) {
                left = left.replace(plain(sentence(test).words()), "~");
            }
            System.out.println(part + ": " + left);
        }
    }
}
