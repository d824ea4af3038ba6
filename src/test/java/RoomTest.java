import java.lang.management.ManagementFactory;
import java.lang.reflect.Array;
import java.lang.reflect.Field;
import java.lang.reflect.Modifier;
import java.util.ArrayDeque;
import java.util.Collections;
import java.util.Deque;
import java.util.IdentityHashMap;
import java.util.Set;

/** Calls make nothing but the first of each image: all room is taken when an object is made, and that is little. */
public final class RoomTest {
    private static final int OBJECTS = 1200;
    private static final int CELLS = 16000;
    private static final int IMAGES = 4;

    public static void main(String[] args) throws IllegalAccessException {
        WashingLines x = new WashingLines();
        for (int k = 0; k < IMAGES; k++) {
            x.image(k);
        }
        int[] room = roomOf(x);
        System.out.println("an object with all its images takes " + room[0] + " objects and arrays, " + room[1] + " fields and elements");
        boolean small = room[0] <= OBJECTS && room[1] <= CELLS;
        int[][][] texts = {Texts.rows("court 1 5;family 20;family 20;family 9;line 0 1 9 50;line 1 2 9 50;line 0 2 5 9;"
            + "linen 0 1 9;linen 0 2 9;linen 1 1 9;linen 1 3 9;linen 0 1 4;linen 1 2 2;hung 0 0;rain 2 3"),
            Texts.rows("claim wet*2+held if not [hour<3 and rain=0] or air>=9;claim cells")};
        all(x, texts);
        com.sun.management.ThreadMXBean bean = (com.sun.management.ThreadMXBean) ManagementFactory.getThreadMXBean();
        long id = Thread.currentThread().getId();
        bean.getThreadAllocatedBytes(id);
        long before = bean.getThreadAllocatedBytes(id);
        long nothing = bean.getThreadAllocatedBytes(id) - before;
        before = bean.getThreadAllocatedBytes(id);
        all(x, texts);
        long taken = bean.getThreadAllocatedBytes(id) - before - nothing;
        System.out.println("a round of all calls takes " + taken + " bytes");
        if (!small || taken > 0) {
            System.out.println("that is too much");
            System.exit(1);
        }
    }

    private static int[] roomOf(Object root) throws IllegalAccessException {
        Set<Object> seen = Collections.newSetFromMap(new IdentityHashMap<>());
        Deque<Object> open = new ArrayDeque<>();
        open.add(root);
        seen.add(root);
        int cells = 0;
        while (!open.isEmpty()) {
            Object o = open.poll();
            if (o.getClass().isArray()) {
                cells += Array.getLength(o);
                for (int i = 0; !o.getClass().getComponentType().isPrimitive() && i < Array.getLength(o); i++) {
                    reach(Array.get(o, i), seen, open);
                }
                continue;
            }
            for (Field f : o.getClass().getDeclaredFields()) {
                if (!Modifier.isStatic(f.getModifiers())) {
                    cells++;
                    f.setAccessible(true);
                    if (!f.getType().isPrimitive()) {
                        reach(f.get(o), seen, open);
                    }
                }
            }
        }
        return new int[] {seen.size(), cells};
    }

    private static void reach(Object o, Set<Object> seen, Deque<Object> open) {
        if (o != null && seen.add(o)) {
            open.add(o);
        }
    }

    private static void all(WashingLines x, int[][][] texts) {
        bring(x, texts[0]);
        x.court();
        bring(x, texts[1]);
        x.force(x.rule());
        for (int what = -1; what < 16; what++) {
            x.count(what);
            x.family(0, what);
            x.line(0, what);
            x.linen(0, what);
            x.ahead(0, 50, what);
            x.most(0, 12, what);
            x.game(0, 1, 3, what);
            x.free(0, what);
            x.few(1, 0, what);
            x.way(0, 2, what);
            x.ruled(what);
            x.look(5, what);
            x.laws(0, 60, what);
            x.years(10, 60, 50, what);
        }
        x.hour();
        x.hang(3, 1);
        x.worth(3, 60);
        x.dries(3);
        x.bears(1);
        x.storm(9);
        x.log(1, 0, 0);
        x.take(3);
        x.wash(3);
        x.cut(0);
        x.mend(0);
        x.image(1);
        x.undo();
        x.back(1);
        x.seed(3);
        x.force(-1);
    }

    private static void bring(WashingLines x, int[][] rows) {
        x.end(0);
        for (int[] r : rows) {
            x.feed(r[0], r[1], r[2], r[3], r[4]);
        }
        x.end(rows.length * 20 - trailing(rows[rows.length - 1]));
    }

    private static int trailing(int[] row) {
        int n = 0;
        for (int i = 19; i >= 0 && (row[i / 4] >> (24 - 8 * (i % 4)) & 255) == 0; i--) {
            n++;
        }
        return n;
    }
}
