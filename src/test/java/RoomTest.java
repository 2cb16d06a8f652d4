import java.lang.management.ManagementFactory;
import java.lang.reflect.Array;
import java.lang.reflect.Field;
import java.lang.reflect.Modifier;
import java.util.ArrayDeque;
import java.util.Collections;
import java.util.Deque;
import java.util.IdentityHashMap;
import java.util.Set;

/** All room is taken when a workbench is made: it is little, and no call takes more. */
public final class RoomTest {
    private static final int MOST_OBJECTS = 1000;
    private static final int MOST_ELEMENTS = 20000;
    private static final long MOST_BYTES = 100_000;

    private static int wrong = 0;

    private static void atMost(String what, long got, long most) {
        if (got > most) {
            wrong++;
            System.out.println(what + ": " + got + ", at most " + most + " are due");
        }
    }

    public static void main(String[] args) throws Exception {
        countRoom();
        Bench[] benches = new Bench[21];
        for (int i = 0; i < benches.length; i++) {
            benches[i] = new Bench();
        }
        useAll(benches[0]);
        com.sun.management.ThreadMXBean threads = (com.sun.management.ThreadMXBean) ManagementFactory.getThreadMXBean();
        long thread = Thread.currentThread().getId();
        long before = threads.getThreadAllocatedBytes(thread);
        for (int i = 1; i < benches.length; i++) {
            useAll(benches[i]);
        }
        atMost("bytes made by calls", threads.getThreadAllocatedBytes(thread) - before, MOST_BYTES);
        System.out.println(wrong == 0 ? "the room is as due" : "the room is not as due");
        if (wrong != 0) {
            System.exit(1);
        }
    }

    /** The calls with the most work in them, after which the list is empty again. */
    private static void useAll(Bench x) {
        x.type("CpCqp");
        x.addAxiom();
        x.type("CCpCqrCCpqCpr");
        x.addAxiom();
        x.type("S(BWC)(KI)");
        x.addType();
        x.type("CaCbCcCdCeCfCgCha");
        x.addAxiom();
        x.isValid(3);
        x.refutation(3, 0);
        x.countValuations(3, 1);
        for (int i = 0; i < 4; i++) {
            x.round(39);
        }
        for (int i = 0; i < x.listSize(); i++) {
            x.shortest(i, 4);
            x.moreGeneral(i);
            x.unify(i, 0);
            x.writeFormula(i);
            x.writeProof(i);
        }
        x.cut(4);
        x.type("DDD2D12DD11D21D1D2D1D12");
        x.prove();
        x.cut(0);
        x.type("SII(SII)");
        x.reduceTerm(50);
        for (int row = 0; row < 3; row++) {
            x.allocate(row, 1, 80);
            x.storeOutput(row, 0);
            x.copyElements(row, 0, 0, 0, 80);
            x.loadText(row, 0, 80);
        }
        x.clearText();
    }

    private static void countRoom() throws Exception {
        CondensedDetachment x = new CondensedDetachment();
        Set<Object> seen = Collections.newSetFromMap(new IdentityHashMap<>());
        Deque<Object> open = new ArrayDeque<>();
        open.add(x);
        seen.add(x);
        long elements = 0;
        while (!open.isEmpty()) {
            Object next = open.pop();
            if (next.getClass().isArray()) {
                elements += Array.getLength(next);
                for (int i = 0; !next.getClass().getComponentType().isPrimitive() && i < Array.getLength(next); i++) {
                    visit(Array.get(next, i), seen, open);
                }
                continue;
            }
            for (Field field : next.getClass().getDeclaredFields()) {
                if (!Modifier.isStatic(field.getModifiers())) {
                    elements++;
                    field.setAccessible(true);
                    if (!field.getType().isPrimitive()) {
                        visit(field.get(next), seen, open);
                    }
                }
            }
        }
        System.out.println("a workbench has " + seen.size() + " objects with " + elements + " fields and elements");
        atMost("objects of a workbench", seen.size(), MOST_OBJECTS);
        atMost("fields and elements of a workbench", elements, MOST_ELEMENTS);
    }

    private static void visit(Object object, Set<Object> seen, Deque<Object> open) {
        if (object != null && seen.add(object)) {
            open.add(object);
        }
    }
}
