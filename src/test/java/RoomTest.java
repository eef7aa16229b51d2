import java.lang.management.ManagementFactory;
import java.lang.reflect.Array;
import java.lang.reflect.Field;
import java.lang.reflect.Modifier;
import java.util.ArrayList;
import java.util.IdentityHashMap;
import java.util.List;
import java.util.Map;

/** What a run makes: a new object is small, and no call makes anything. */
public final class RoomTest {
    private static final Check check = new Check();
    private static final int OBJECTS = 64;
    private static final int ELEMENTS = 3000;
    private static final int ROUNDS = 200;

    public static void main(String[] args) throws Exception {
        size();
        callsMakeNothing();
        check.end();
    }

    private static void size() throws Exception {
        Map<Object, Boolean> seen = new IdentityHashMap<>();
        List<Object> open = new ArrayList<>();
        open.add(new CommaCopies());
        int elements = 0;
        while (!open.isEmpty()) {
            Object o = open.remove(open.size() - 1);
            if (seen.put(o, true) == null) {
                elements += o.getClass().isArray() ? Array.getLength(o) : fieldsOf(o, open);
            }
        }
        check.due("objects of a new one: " + seen.size(), seen.size() <= OBJECTS ? 1 : 0, 1);
        check.due("fields and elements of a new one: " + elements, elements <= ELEMENTS ? 1 : 0, 1);
    }

    private static int fieldsOf(Object o, List<Object> open) throws Exception {
        int fields = 0;
        for (Field f : o.getClass().getDeclaredFields()) {
            if (!Modifier.isStatic(f.getModifiers())) {
                fields++;
                f.setAccessible(true);
                if (!f.getType().isPrimitive() && f.get(o) != null) {
                    open.add(f.get(o));
                }
            }
        }
        return fields;
    }

    private static void callsMakeNothing() {
        com.sun.management.ThreadMXBean counter = (com.sun.management.ThreadMXBean) ManagementFactory.getThreadMXBean();
        long self = Thread.currentThread().getId();
        CommaCopies[] scenes = new CommaCopies[Scene.values().length];
        for (int k = 0; k < scenes.length; k++) {
            scenes[k] = Scene.values()[k].make();
        }
        // The first rounds let the machine load what it needs.
        long sum = rounds(scenes);
        long before = counter.getThreadAllocatedBytes(self);
        sum += rounds(scenes);
        long made = counter.getThreadAllocatedBytes(self) - before;
        check.due("bytes made by calls: " + made + " (" + sum + ")", made < ROUNDS ? 1 : 0, 1);
    }

    private static long rounds(CommaCopies[] scenes) {
        long sum = 0;
        for (int k = 0; k < ROUNDS; k++) {
            for (CommaCopies x : scenes) {
                sum += asks(x) + changes(x);
            }
        }
        return sum;
    }

    private static int asks(CommaCopies x) {
        int sum = x.choices(0) + x.choice(0, 0) + x.reads(0, 3) + x.costOf(0) + x.could(1) + x.maker(1);
        for (int k = 0; k < 6; k++) {
            sum += x.count(k);
        }
        for (int law = 0; law < 3; law++) {
            sum += x.holds(law) + x.breach(law, 0) + x.fewest(law) + x.more(law, 0);
        }
        sum += x.blamed(0) + x.blamed(1) + x.unjust(1) + x.score(0) + x.wrong(1, 0) + x.wrong(1, 1) + x.bar(9);
        return sum + x.put(0, 0) + x.hidden(1, -1) + x.hidden(3, 0) + x.past(0, 0) + x.past(0, 1);
    }

    /** Each of these is done again in the next round, so that all scenes go on alike. */
    private static int changes(CommaCopies x) {
        int sum = x.image() + x.keep() + x.putAll() + x.cost(0, 0, 3) + x.mended(0, 1) + x.print(0, 1);
        sum += x.set(0, 3) + x.set(1, 1) + x.sheet(2, 0, 8) + x.item(2, 0, 1, 1) + x.copy(2, 1, 2, 0, 3);
        sum += x.copyOf(2, 0, 0) + x.burn(0) + x.drop(2) + x.type('a', 1) + x.printed();
        sum += x.type(0x5b612f625dL, 5) + x.letter() + x.printed() + x.type(']', 1) + x.letter();
        return sum + x.restore();
    }
}
