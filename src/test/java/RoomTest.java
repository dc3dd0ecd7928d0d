import com.sun.management.ThreadMXBean;
import java.lang.management.ManagementFactory;
import java.lang.reflect.Array;
import java.lang.reflect.Field;
import java.lang.reflect.Modifier;
import java.util.ArrayDeque;
import java.util.Collections;
import java.util.Deque;
import java.util.IdentityHashMap;
import java.util.Set;

/** What an object takes of the room in which all calls of a run live: its rows are made with it, and no call makes more. */
public final class RoomTest {
    private static final Check CHECK = new Check("RoomTest");
    private static final int MOST_OBJECTS = 600;
    private static final int MOST_ELEMENTS = 80_000;

    private final Set<Object> seen = Collections.newSetFromMap(new IdentityHashMap<>());
    private final Deque<Object> open = new ArrayDeque<>();
    private int elements = 0;

    public static void main(String[] args) throws IllegalAccessException {
        TermRules x = new TermRules();
        RoomTest before = new RoomTest(x);
        CHECK.due("some hundred objects", before.seen.size() <= MOST_OBJECTS ? 1 : 0, 1);
        CHECK.due("some seventy thousand elements", before.elements <= MOST_ELEMENTS ? 1 : 0, 1);
        work(x);
        RoomTest after = new RoomTest(x);
        CHECK.due("elements after the calls", after.elements, before.elements);
        after.seen.removeAll(before.seen);
        CHECK.due("other objects after the calls", after.seen.size(), 0);
        nothingIsMade(x);
        CHECK.finish();
    }

    private RoomTest(TermRules x) throws IllegalAccessException {
        add(x);
        while (!open.isEmpty()) {
            Object next = open.pop();
            if (next.getClass().isArray()) {
                addElements(next);
            } else {
                addFields(next);
            }
        }
    }

    private void add(Object object) {
        if (object != null && seen.add(object)) {
            open.push(object);
        }
    }

    private void addElements(Object row) {
        elements += Array.getLength(row);
        for (int k = 0; k < Array.getLength(row) && !row.getClass().getComponentType().isPrimitive(); k++) {
            add(Array.get(row, k));
        }
    }

    private void addFields(Object object) throws IllegalAccessException {
        for (Field field : object.getClass().getDeclaredFields()) {
            if (Modifier.isStatic(field.getModifiers())) {
                continue;
            }
            elements++;
            field.setAccessible(true);
            if (!field.getType().isPrimitive()) {
                add(field.get(object));
            }
        }
    }

    /** The dearest calls: many meetings, large terms, long texts, all orders. */
    private static void work(TermRules x) {
        String chains = (Check.nest("f", 38, "X") + "=X;").repeat(3);
        Check.rules(x, chains + "a(b(c(d(e(X)))))=X;e(X)=d(X);d(X)=c(X);c(X)=b(X);b(X)=a(X);");
        askAll(x);
        Check.rules(x, "g(X)=h(X,X);k(X,X)=X;");
        Check.reduce(x, "k(" + Check.nest("g", 8, "Q") + "," + Check.nest("g", 8, "Q") + ")");
        Check.same(x, Check.nest("g", 8, "Q") + "=" + Check.nest("g", 9, "Q"));
        askAll(x);
        Check.reduce(x, " ".repeat(3999) + "Q");
        askAll(x);
    }

    private static void askAll(TermRules x) {
        x.order(0);
        x.isSure();
        for (int k = 0; k < 30; k++) {
            x.closes(k);
            x.write(k, k % 2, k % 3 == 0);
        }
        x.result();
        x.place();
    }

    /** What a call makes and drops again takes room as well. */
    private static void nothingIsMade(TermRules x) {
        if (!(ManagementFactory.getThreadMXBean() instanceof ThreadMXBean threads)) {
            return;
        }
        for (int round = 0; round < 3; round++) {
            Check.rules(x, "f(g(X),Y)=f(X,h(Y));g(g(X))=X;h(a)=g(a);");
            Check.feed(x, "f(g(g(g(a))),Q)");
            long before = threads.getCurrentThreadAllocatedBytes();
            x.reduce(15);
            askAll(x);
            x.feed(1, 2, 3, 4, 5);
            x.same(20);
            x.rules(0);
            askAll(x);
            long made = threads.getCurrentThreadAllocatedBytes() - before;
            CHECK.due("bytes made by calls: " + made, round > 0 && made > 1000 ? 1 : 0, 0);
        }
    }
}
