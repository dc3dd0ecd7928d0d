import java.lang.reflect.Array;
import java.lang.reflect.Field;
import java.lang.reflect.Modifier;
import java.util.ArrayDeque;
import java.util.Collections;
import java.util.Deque;
import java.util.IdentityHashMap;
import java.util.Set;

/** What an object takes of the room in which all calls of a run live: its rows are made with it, and no call makes more. */
public final class RoomTest {
    private static final Check CHECK = new Check("RoomTest");
    private static final int MOST_OBJECTS = 600;
    private static final int MOST_ELEMENTS = 80_000;
    /** What asking for the count makes by itself. */
    private static final int MOST_MADE = 20_000;

    private final Set<Object> seen = Collections.newSetFromMap(new IdentityHashMap<>());
    private final Deque<Object> open = new ArrayDeque<>();
    private int elements = 0;

    public static void main(String[] args) throws IllegalAccessException {
        TermRules x = new TermRules();
        RoomTest before = new RoomTest(x);
        CHECK.due("some hundred objects", before.seen.size() <= MOST_OBJECTS ? 1 : 0, 1);
        CHECK.due("some seventy thousand elements", before.elements <= MOST_ELEMENTS ? 1 : 0, 1);
        work(x);
        RoomTest after = new RoomTest(x);
        CHECK.due("elements after the calls", after.elements, before.elements);
        after.seen.removeAll(before.seen);
        CHECK.due("other objects after the calls", after.seen.size(), 0);
        nothingIsMade(x);
        CHECK.finish();
    }

    private RoomTest(TermRules x) throws IllegalAccessException {
        add(x);
        while (!open.isEmpty()) {
            Object next = open.pop();
            if (next.getClass().isArray()) {
                addElements(next);
            } else {
                addFields(next);
            }
        }
    }

    private void add(Object object) {
        if (object != null && seen.add(object)) {
            open.push(object);
        }
    }

    private void addElements(Object row) {
        elements += Array.getLength(row);
        for (int k = 0; k < Array.getLength(row) && !row.getClass().getComponentType().isPrimitive(); k++) {
            add(Array.get(row, k));
        }
    }

    private void addFields(Object object) throws IllegalAccessException {
        for (Field field : object.getClass().getDeclaredFields()) {
            if (Modifier.isStatic(field.getModifiers())) {
                continue;
            }
            elements++;
            field.setAccessible(true);
            if (!field.getType().isPrimitive()) {
                add(field.get(object));
            }
        }
    }

    /** The dearest calls: many meetings, large terms, long texts, all orders. */
    private static void work(TermRules x) {
        String chains = (Check.nest("f", 38, "X") + "=X;").repeat(3);
        Check.rules(x, chains + "a(b(c(d(e(X)))))=X;e(X)=d(X);d(X)=c(X);c(X)=b(X);b(X)=a(X);");
        askAll(x);
        Check.rules(x, "g(X)=h(X,X);k(X,X)=X;");
        Check.reduce(x, "k(" + Check.nest("g", 8, "Q") + "," + Check.nest("g", 8, "Q") + ")");
        Check.same(x, Check.nest("g", 8, "Q") + "=" + Check.nest("g", 9, "Q"));
        askAll(x);
        Check.reduce(x, " ".repeat(3999) + "Q");
        askAll(x);
    }

    private static void askAll(TermRules x) {
        x.order(0);
        x.isSure();
        for (int k = 0; k < 30; k++) {
            x.closes(k);
            x.write(k, k % 2, k % 3 == 0);
        }
        x.result();
        x.place();
    }

    /** What a call makes and drops again takes room as well. */
    private static void nothingIsMade(TermRules x) {
        madeSoFar();
        long before = madeSoFar();
        for (int round = 0; round < 100; round++) {
            // "f(f(X))=X;f(a)=a;", then "f(f(f(a)))", then something that is no text.
            x.feed(0x66286628, 0x5829293d, 0x583b6628, 0x61293d61, 0x3b202020);
            x.rules(20);
            x.feed(0x66286628, 0x66286129, 0x29292020, 0x20202020, 0x20202020);
            x.reduce(20);
            askAll(x);
            x.feed(1, 2, 3, 4, 5);
            x.same(20);
        }
        long made = madeSoFar() - before;
        CHECK.due("the rules are taken", x.symbols(), 2);
        CHECK.due("bytes made by some seven thousand calls: " + made, made > MOST_MADE ? 1 : 0, 0);
    }

    /** How many bytes this thread has taken; always 0 where the machine has no such count. */
    private static long madeSoFar() {
        try {
            Object threads = Class.forName("java.lang.management.ManagementFactory").getMethod("getThreadMXBean").invoke(null);
            return (long) Class.forName("com.sun.management.ThreadMXBean")
                    .getMethod("getCurrentThreadAllocatedBytes").invoke(threads);
        } catch (ReflectiveOperationException noCount) {
            return 0;
        }
    }
}
