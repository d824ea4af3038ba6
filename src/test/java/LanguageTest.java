import java.io.IOException;
import java.lang.reflect.Constructor;
import java.lang.reflect.Field;
import java.lang.reflect.Method;
import java.lang.reflect.Modifier;
import java.nio.file.Files;
import java.nio.file.Path;
import java.util.Arrays;
import java.util.Set;
import java.util.TreeSet;
import java.util.regex.Matcher;
import java.util.regex.Pattern;

/** What of the rules of the language can be seen by a machine; takes the path of the program's source. */
public final class LanguageTest {
    private static final String FACE = "feed(int,int,int,int,int)int end(int)int court()int rule()int force(int)int "
        + "family(int,int)int line(int,int)int linen(int,int)int hour()int hang(int,int)int take(int)int wash(int)int "
        + "cut(int)int mend(int)boolean undo()int ahead(int,int,int)int dries(int)int most(int,int,int)int "
        + "game(int,int,int,int)int free(int,int)int few(int,int,int)int way(int,int,int)int bears(int)int storm(int)int "
        + "worth(int,int)int log(int,int,int)int ruled(int)int look(int,int)int laws(int,int,int)int seed(int)int "
        + "years(int,int,int,int)int count(int)int image(int)int back(int)int";
    private static int wrong;

    public static void main(String[] args) throws IOException {
        face();
        classes();
        source(Files.readString(Path.of(args.length > 0 ? args[0] : "src/main/java/WashingLines.java")));
        System.out.println(wrong == 0 ? "the language is kept to" : wrong + " faults");
        if (wrong != 0) {
            System.exit(1);
        }
    }

    private static void must(boolean holds, String what) {
        if (!holds) {
            wrong++;
            System.out.println(what);
        }
    }

    private static void face() {
        Class<?> c = WashingLines.class;
        must(Modifier.isPublic(c.getModifiers()) && Modifier.isFinal(c.getModifiers()), "1: public and final");
        Set<String> found = new TreeSet<>();
        Set<String> names = new TreeSet<>();
        for (Method m : c.getDeclaredMethods()) {
            if (!Modifier.isPrivate(m.getModifiers())) {
                String types = String.join(",", Arrays.stream(m.getParameterTypes()).map(Class::getName).toList());
                found.add(m.getName() + "(" + types + ")" + m.getReturnType().getName());
                names.add(m.getName());
                must(Modifier.isPublic(m.getModifiers()) && !Modifier.isStatic(m.getModifiers()), "1: " + m);
            }
        }
        must(found.equals(new TreeSet<>(Arrays.asList(FACE.split(" ")))), "1: the face is " + found);
        for (Field f : c.getDeclaredFields()) {
            must(Modifier.isPrivate(f.getModifiers()) || f.getName().equals("NONE"), "1: " + f);
        }
        for (Constructor<?> k : c.getDeclaredConstructors()) {
            must(Modifier.isPublic(k.getModifiers()) && k.getParameterCount() == 0, "1: " + k);
        }
        for (Class<?> inner : c.getDeclaredClasses()) {
            for (Method m : inner.getDeclaredMethods()) {
                must(!names.contains(m.getName()), "1: a method inside bears the name of a public one: " + m);
            }
        }
        for (Method m : c.getDeclaredMethods()) {
            must(!Modifier.isPrivate(m.getModifiers()) || !names.contains(m.getName()), "1: " + m);
        }
    }

    private static void classes() {
        Class<?>[] inner = WashingLines.class.getDeclaredClasses();
        must(inner.length + 1 <= 12, "11: classes: " + (inner.length + 1));
        fields(WashingLines.class);
        for (Class<?> c : inner) {
            must(Modifier.isStatic(c.getModifiers()) && Modifier.isFinal(c.getModifiers()), "2: " + c);
            must(!Modifier.isPublic(c.getModifiers()) && !Modifier.isProtected(c.getModifiers()), "1: " + c);
            must(c.getDeclaredClasses().length == 0, "2: " + c);
            fields(c);
            for (Method m : c.getDeclaredMethods()) {
                must(m.getParameterCount() <= 7, "11: " + m);
            }
        }
    }

    private static void fields(Class<?> c) {
        int own = 0;
        for (Field f : c.getDeclaredFields()) {
            boolean isStatic = Modifier.isStatic(f.getModifiers());
            own += isStatic ? 0 : 1;
            must(!isStatic || Modifier.isFinal(f.getModifiers()), "5: " + f);
            must(!isStatic || f.getType().isPrimitive() || f.getType() == String.class, "5: " + f);
        }
        must(own <= 20, "11: fields of " + c + ": " + own);
    }

    private static void source(String text) {
        String bare = text.replaceAll("(?s)/\\*.*?\\*/", "").replaceAll("//[^\n]*", "");
        for (char sign : text.toCharArray()) {
            must(sign >= 10 && sign < 127, "4: a sign beyond 126");
        }
        String code = bare.replaceAll("\"(\\\\.|[^\"\\\\])*\"", "\"\"").replaceAll("'(\\\\.|[^'\\\\])'", "'0'");
        String banned = "\\b(throw|throws|try|catch|synchronized|assert|import|package|var|record|yield|protected|native|volatile)"
            + "\\b|->|::|@|\\.\\.\\.|Exact\\(|\\b(System\\.(?!arraycopy)|Thread|Random|Object|float|double)\\b|\"\\s*\\+|\\+\\s*\"";
        Matcher m = Pattern.compile(banned).matcher(code);
        for (int n = 0; n < 20 && m.find(); n++) {
            must(false, "3 to 13: " + m.group());
        }
        must(!Pattern.compile("\\]\\s*\\.").matcher(code).find(), "7: what stands in a row is used without being looked at");
        int start = -1;
        String[] lines = text.split("\n");
        for (int i = 0; i < lines.length; i++) {
            must(lines[i].length() <= 130, "a long line: " + (i + 1));
            if (lines[i].matches("( {4}| {8})[a-zA-Z].*\\) \\{")) {
                start = i;
            } else if (lines[i].matches("( {4}| {8})\\}") && start >= 0) {
                must(i - start < 60, "11: a long method at line " + (start + 1));
                start = -1;
            }
        }
    }
}
