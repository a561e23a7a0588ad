import java.lang.management.ManagementFactory;
import java.lang.reflect.Array;
import java.lang.reflect.Field;
import java.lang.reflect.Modifier;
import java.util.ArrayDeque;
import java.util.Collections;
import java.util.Deque;
import java.util.IdentityHashMap;
import java.util.Set;

/** All calls of a run live in one room: how much an object holds, and that calls make nothing more. */
public final class RoomTest {
    private static final int MOST_OBJECTS = 200;
    private static final int MOST_ELEMENTS = 10000;
    private static final String PARTY = "seats 9 bench 20 plate 10 lack 30;" + Edges.guests(8, 6, 30, 3, 20)
            + Edges.pairs("pulls", 16) + Edges.pairs("hears", 24) + "late (((weeks*2)+slight)/10);maybe 3;soon 4;more 1;";

    public static void main(String[] args) throws IllegalAccessException {
        Room fresh = new Room(new AndGuest());
        Check.due("objects of a new one, so many as " + fresh.objects, fresh.objects <= MOST_OBJECTS, true);
        Check.due("elements of a new one, so many as " + fresh.elements, fresh.elements <= MOST_ELEMENTS, true);
        AndGuest used = new AndGuest();
        run(used);
        Room after = new Room(used);
        Check.due("objects behind a run", after.objects, fresh.objects);
        Check.due("elements behind a run", after.elements, fresh.elements);
        callsMakeNothing();
        Check.finish("RoomTest");
    }

    /** What hangs on an object: itself, its fields, all that these hold. */
    private static final class Room {
        private final Set<Object> seen = Collections.newSetFromMap(new IdentityHashMap<>());
        private final Deque<Object> open = new ArrayDeque<>();
        private int objects = 0;
        private int elements = 0;

        Room(Object root) throws IllegalAccessException {
            meet(root);
            while (!open.isEmpty()) {
                look(open.remove());
            }
        }

        private void meet(Object one) {
            if (one != null && seen.add(one)) {
                objects++;
                open.add(one);
            }
        }

        private void look(Object one) throws IllegalAccessException {
            if (one.getClass().isArray()) {
                elements += Array.getLength(one);
                for (int k = 0; !one.getClass().getComponentType().isPrimitive() && k < Array.getLength(one); k++) {
                    meet(Array.get(one, k));
                }
                return;
            }
            for (Field field : one.getClass().getDeclaredFields()) {
                if (!Modifier.isStatic(field.getModifiers())) {
                    elements++;
                    field.setAccessible(true);
                    if (!field.getType().isPrimitive()) {
                        meet(field.get(one));
                    }
                }
            }
        }
    }

    private static void callsMakeNothing() {
        if (!(ManagementFactory.getThreadMXBean() instanceof com.sun.management.ThreadMXBean)) {
            return;
        }
        com.sun.management.ThreadMXBean bean = (com.sun.management.ThreadMXBean) ManagementFactory.getThreadMXBean();
        if (!bean.isThreadAllocatedMemorySupported() || !bean.isThreadAllocatedMemoryEnabled()) {
            return;
        }
        long thread = Thread.currentThread().getId();
        bean.getThreadAllocatedBytes(thread);
        AndGuest x = Edges.told(PARTY);
        long before = bean.getThreadAllocatedBytes(thread);
        for (int k = 0; k < 9; k++) {
            eachCall(x, k);
        }
        long made = bean.getThreadAllocatedBytes(thread) - before;
        // Some forty calls nine times over: one small object in one of them would make more.
        Check.due("bytes made by calls, so many as " + made, made < 144, true);
    }

    private static void run(AndGuest x) {
        Check.tell(x, PARTY);
        Check.tell(x, PARTY + "?");
        for (int k = 0; k < 8; k++) {
            eachCall(x, k);
        }
    }

    private static void eachCall(AndGuest x, int k) {
        x.best();
        x.send(128 + 64);
        x.send(255);
        x.leave(k);
        x.enough(k);
        x.safe(k % 3);
        x.odds(k);
        x.above(k);
        x.answers(k);
        x.mean();
        x.worth();
        x.would(0);
        x.offence();
        x.order(k);
        x.plates(1);
        x.ring(1);
        x.full();
        x.seen(4 * k, 30 * k, 0);
        x.seen(4 * k, 30 * k, 1);
        x.seen(4 * k, 30 * k, 2);
        x.answer(k, 2 + k % 3);
        x.weeks(1);
        x.chance(2);
        x.undo();
        x.seed(k);
        x.has(k);
        x.letter(k, 0);
        x.guest(k, 6);
        x.far(k);
        x.image();
        x.octet(k);
        // "total pulls (joy/9) " and "first not [all]     "
        x.feed(0x746f7461, 0x6c207075, 0x6c6c7320, 0x286a6f79, 0x2f392920);
        x.ask();
        x.fault(0);
        x.feed(0x66697273, 0x74206e6f, 0x74205b61, 0x6c6c5d20, 0x20202020);
        x.ask();
        x.on();
        x.end(0);
        x.wedding();
        x.status(k);
    }
}
