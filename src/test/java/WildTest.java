import java.lang.reflect.InvocationTargetException;
import java.lang.reflect.Method;
import java.lang.reflect.Modifier;
import java.util.Arrays;
import java.util.Comparator;
import java.util.List;
import java.util.Random;
import java.util.Set;
import java.util.function.Supplier;

/** No call throws, for any arguments in any state (rule 7 of the language), and by what is asked nothing changes. */
public final class WildTest {
    private static final int[] NUMBERS = {Integer.MIN_VALUE, Integer.MIN_VALUE + 1, -65536, -100000, -256, -100, -21, -11, -5, -4,
        -3, -2, -1, 0, 1, 2, 3, 4, 5, 6, 7, 8, 9, 10, 11, 12, 13, 19, 20, 21, 59, 60, 61, 98, 99, 100, 101, 199, 200, 201, 399, 400,
        401, 512, 998, 999, 1000, 1023, 1024, 32767, 32768, 65535, 65536, 99999, 100000, 0x20202020, 0x636F7572, 0x3B3B3B3B,
        Integer.MAX_VALUE - 1, Integer.MAX_VALUE};
    private static final Set<String> CHANGING = Set.of("feed", "end", "court", "rule", "force", "hour", "hang", "take", "wash",
        "cut", "mend", "undo", "log", "seed", "image", "back");
    private static final List<Supplier<WashingLines>> STATES = List.of(WashingLines::new, () -> Edge.with("court 1 1"),
        () -> Edge.with(CourtEdges.FULL), WildTest::used);
    private static int wrong;

    public static void main(String[] args) throws IllegalAccessException {
        Random draws = new Random(5);
        Method[] calls = calls();
        for (Supplier<WashingLines> state : STATES) {
            for (Method call : calls) {
                alone(state, call, draws);
            }
            for (int run = 0; run < 100; run++) {
                mixed(state.get(), calls, draws);
            }
        }
        System.out.println(wrong == 0 ? "no call throws" : wrong + " faults");
        if (wrong != 0) {
            System.exit(1);
        }
    }

    /** Six rules, all hung that may be, hours and hands past, a line cut, ten logs, an image. */
    private static WashingLines used() {
        WashingLines x = Edge.under(CourtEdges.FULL + ";hung 0 0;hung 1 1;hung 2 2;hung 5 5;rain 1 2", "claim wet*2-others",
            "claim held+air%7", "claim pegs*hour if rain=1 or not [wettest>3];claim 1", "claim 1/0", "claim all-cells", "claim family");
        x.image(2);
        x.hour();
        x.hour();
        x.cut(1);
        for (int i = 0; i < 10; i++) {
            x.log(6 * i, i % 6, i % 5 - 1);
        }
        return x;
    }

    private static Method[] calls() {
        return Arrays.stream(WashingLines.class.getDeclaredMethods()).filter(m -> Modifier.isPublic(m.getModifiers()))
            .sorted(Comparator.comparing(Method::getName)).toArray(Method[]::new);
    }

    /** One call with each number in each place, the other places drawn. */
    private static void alone(Supplier<WashingLines> state, Method call, Random draws) throws IllegalAccessException {
        WashingLines x = state.get();
        String before = Edge.all(x);
        int done = 0;
        for (int place = 0; place < call.getParameterCount(); place++) {
            for (int number : NUMBERS) {
                Object[] row = row(call, draws);
                row[place] = number;
                done(x, call, row);
                done++;
                if (CHANGING.contains(call.getName()) && done % 50 == 0) {
                    x = state.get();
                }
            }
        }
        if (!CHANGING.contains(call.getName()) && !Edge.all(x).equals(before)) {
            wrong++;
            System.out.println(call.getName() + " changes something");
        }
    }

    private static void mixed(WashingLines x, Method[] calls, Random draws) throws IllegalAccessException {
        for (int i = 0; i < 400; i++) {
            Method call = calls[draws.nextInt(calls.length)];
            done(x, call, row(call, draws));
        }
    }

    private static Object[] row(Method call, Random draws) {
        Object[] row = new Object[call.getParameterCount()];
        for (int i = 0; i < row.length; i++) {
            row[i] = draws.nextInt(3) > 0 ? draws.nextInt(7) - 1 : NUMBERS[draws.nextInt(NUMBERS.length)];
        }
        return row;
    }

    private static void done(WashingLines x, Method call, Object[] row) throws IllegalAccessException {
        try {
            call.invoke(x, row);
        } catch (InvocationTargetException thrown) {
            wrong++;
            System.out.println(call.getName() + Arrays.toString(row) + " throws " + thrown.getCause());
        }
    }
}
