import com.sun.management.ThreadMXBean;
import java.lang.management.ManagementFactory;
import java.lang.reflect.Array;
import java.lang.reflect.Field;
import java.lang.reflect.Modifier;
import java.util.Collections;
import java.util.IdentityHashMap;
import java.util.Set;

/** All calls of one run live in one room: a town is small, and no call makes an object. */
public final class RoomTest {
    private static final int MOST_OBJECTS = 60, MOST_FIELDS = 700;
    private static final int FEW_ROUNDS = 4;
    private static final Due DUE = new Due("RoomTest");

    public static void main(String[] args) throws IllegalAccessException {
        townIsSmall();
        callsMakeNothing();
        DUE.end();
    }

    private static WinnersLeave town() {
        WinnersLeave x = Due.town("v;p52;l31;c20;p19;l77;c40");
        Due.row(x, 0, 1, "v;p52;l31;c20;p19;l77;c40".chars().toArray());
        Due.row(x, 1, 0, 0, 1, 1, 2, 2, 0, 3, 4, 4, 5, 5, 3, 0, 2, 1, 0, 2, 1, 4, 3);
        Due.row(x, 2, 2, 0, 25, 1, 20, 0, 3, 0, 10, 5, 29);
        return x;
    }

    private static void townIsSmall() throws IllegalAccessException {
        WinnersLeave x = new WinnersLeave();
        Set<Object> made = Collections.newSetFromMap(new IdentityHashMap<>());
        int fields = fieldsOf(x, made);
        DUE.is(made.size() + " objects are few enough", made.size() <= MOST_OBJECTS ? 1 : 0, 1);
        DUE.is(fields + " fields and elements are few enough", fields <= MOST_FIELDS ? 1 : 0, 1);
        x = town();
        callAll(x);
        Set<Object> kept = Collections.newSetFromMap(new IdentityHashMap<>());
        DUE.is("fields and elements behind all calls", fieldsOf(x, kept), fields);
        DUE.is("objects behind all calls", kept.size(), made.size());
    }

    /** How many fields and elements an object and all that it has are; the objects come to the set. */
    private static int fieldsOf(Object of, Set<Object> seen) throws IllegalAccessException {
        if (of == null || !seen.add(of)) {
            return 0;
        }
        int count = 0;
        if (of.getClass().isArray()) {
            boolean plain = of.getClass().getComponentType().isPrimitive();
            for (int i = 0; i < Array.getLength(of); i++) {
                count += 1 + (plain ? 0 : fieldsOf(Array.get(of, i), seen));
            }
            return count;
        }
        for (Field f : of.getClass().getDeclaredFields()) {
            if (!Modifier.isStatic(f.getModifiers())) {
                f.setAccessible(true);
                count += 1 + (f.getType().isPrimitive() ? 0 : fieldsOf(f.get(of), seen));
            }
        }
        return count;
    }

    private static void callsMakeNothing() {
        WinnersLeave x = town();
        ThreadMXBean threads = (ThreadMXBean) ManagementFactory.getThreadMXBean();
        long thread = Thread.currentThread().getId();
        long least = Long.MAX_VALUE;
        // a few rounds alone: the machine's own making ends behind the first, and later it may leave out ours
        for (int round = 0; round < FEW_ROUNDS; round++) {
            long before = threads.getThreadAllocatedBytes(thread);
            callAll(x);
            least = Math.min(least, threads.getThreadAllocatedBytes(thread) - before);
        }
        DUE.is("bytes made by a round of all calls", least, 0);
    }

    /** Every call once, so that it goes its longest way. */
    private static long callAll(WinnersLeave x) {
        long sum = x.harbour(0, 1, 0, 25) + x.ofPerson(0, 3) + x.train(1, 3) + x.learn(1, 1);
        sum += x.season(2, 2, 0, 5, 2) + x.safe(0, 1) + x.sure(2) + x.common(0, 1) + x.pairs(-1) + x.pairs(5);
        sum += x.orders(1, 0, 0, 2, -1) + x.orders(1, 0, 0, 2, 5) + x.drops(1, 0, 0, 10);
        for (int r = 0; r < 8; r++) {
            sum += x.reading(0, 1, 0, 2);
        }
        sum += x.strengths(0) + x.feints(0) + x.kinds(0) + x.odds(0, 1, 0) + x.back(8);
        sum += x.game(0, 1, 5, 4) + x.fetch(0) + x.shy(2, 1) + x.fetch(2);
        sum += x.sheet(3, 2, 60) + x.put(3, 59, 1) + x.cell(3, 59, 2) + x.copy(3, 0, 3, 1, 59) + x.lose(3);
        sum += x.tell(2) + x.wave(2) + x.wave(0) + x.as(0, 2) + x.trace() + x.fault() + x.many(2);
        return sum;
    }
}
