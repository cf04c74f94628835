import java.lang.management.ManagementFactory;
import java.lang.reflect.Array;
import java.lang.reflect.Field;
import java.lang.reflect.Modifier;
import java.util.ArrayDeque;
import java.util.Deque;
import java.util.IdentityHashMap;
import java.util.Map;

/** All calls of a run live in one room: an object makes its rows when it is made, and none after. */
public final class RoomTest {
    private static final int ROUNDS = 300, MOST_BYTES = 20000;
    private static final Check check = new Check();

    public static void main(String[] args) throws Exception {
        BakedBefore x = full();
        size(x);
        com.sun.management.ThreadMXBean room =
            (com.sun.management.ThreadMXBean) ManagementFactory.getThreadMXBean();
        long me = Thread.currentThread().getId();
        play(x);
        long before = room.getThreadAllocatedBytes(me);
        long sum = 0;
        for (int round = 0; round < ROUNDS; round++) {
            sum += play(x);
        }
        long bytes = room.getThreadAllocatedBytes(me) - before;
        check.holds("calls make nothing, but made " + bytes + " bytes (" + sum + ")", bytes < MOST_BYTES);
        check.close();
    }

    private static BakedBefore full() {
        BakedBefore x = new BakedBefore();
        for (int i = 0; i < 6; i++) {
            x.loaf(i, i);
            x.set(i, i % 4, 0, 10 * i);
            x.book(i, true);
            x.tape(i, 1, 60);
        }
        for (char c : "take 60 t<2|!(o>3&h<9);more 40 k=3&!(l=2|v>5);fee 3 l<3;cold 70".toCharArray()) {
            x.feed(c);
        }
        x.kiln();
        return x;
    }

    private static long play(BakedBefore x) {
        long sum = 0;
        for (int i = 0; i < 6; i++) {
            sum += x.bake(i) + x.would(i, 0, 4) + x.order(31, i - 1) + x.colds(30, i - 1) + x.place(i, 0);
            sum += x.guilty(i) + x.two(0) + x.has(i) + x.swaps(i) + x.span(i, 0, 5, 1) + x.year(60, 7, 4);
            sum += x.odds(i, 0) + x.mean(0, 1) + x.looked() + x.judge(i, 0) + x.image() + x.undo();
            sum += x.act(i, 2, 7) + x.trace(3) + x.taken(i, 3) + x.count(4) + x.item(i, 3, 4) + x.read(i, 3);
            sum += x.shift(i, 0, 5, 7, 9) + x.of(i, 2) + x.of(i, 30) + x.cold() + x.tape(5, 1, 60);
            sum += x.oven(i, 9000 - i) + x.book(-1, true) + x.book(i, false) + x.feed('x') + x.kiln();
        }
        return sum;
    }

    /** What hangs on an object: as much as lets thousands of them stand in a room. */
    private static void size(Object x) throws Exception {
        Map<Object, Boolean> seen = new IdentityHashMap<>();
        Deque<Object> left = new ArrayDeque<>();
        left.add(x);
        seen.put(x, true);
        int parts = 0;
        while (!left.isEmpty()) {
            Object next = left.poll();
            if (next.getClass().isArray()) {
                parts += Array.getLength(next);
                for (int i = 0; i < Array.getLength(next); i++) {
                    add(Array.get(next, i), next.getClass().getComponentType(), seen, left);
                }
            } else {
                for (Field field : next.getClass().getDeclaredFields()) {
                    if (!Modifier.isStatic(field.getModifiers())) {
                        parts++;
                        field.setAccessible(true);
                        add(field.get(next), field.getType(), seen, left);
                    }
                }
            }
        }
        check.holds("objects and arrays: " + seen.size(), seen.size() <= 150);
        check.holds("fields and elements: " + parts, parts <= 2500);
        System.out.println(seen.size() + " objects and arrays, " + parts + " fields and elements");
    }

    private static void add(Object part, Class<?> type, Map<Object, Boolean> seen, Deque<Object> left) {
        if (part != null && !type.isPrimitive() && seen.put(part, true) == null) {
            left.add(part);
        }
    }
}
