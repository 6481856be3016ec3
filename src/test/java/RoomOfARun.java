import com.sun.management.ThreadMXBean;
import java.lang.management.ManagementFactory;
import java.lang.reflect.Array;
import java.lang.reflect.Field;
import java.lang.reflect.Modifier;
import java.util.ArrayList;
import java.util.Collections;
import java.util.IdentityHashMap;
import java.util.List;
import java.util.Set;

/** All calls of one run live in one room: a new object is small, and no call makes an object or an array. */
public final class RoomOfARun {
    private static final int OBJECTS_MOST = 100, ELEMENTS_MOST = 10000, ROUNDS = 2000;
    /** Far below what one small object a round would take, but more than the machine itself may need. */
    private static final long BYTES_MOST = 8 * ROUNDS;

    public static void main(String[] args) throws Exception {
        boolean small = isSmall(new CrashTies());
        CrashTies x = new CrashTies();
        Scenes.woven(x, 3, 50);
        // the first rounds load what the machine needs
        everyCall(x, ROUNDS);
        ThreadMXBean threads = (ThreadMXBean) ManagementFactory.getThreadMXBean();
        long thread = Thread.currentThread().getId();
        threads.getThreadAllocatedBytes(thread);
        long before = threads.getThreadAllocatedBytes(thread);
        everyCall(x, ROUNDS);
        long bytes = threads.getThreadAllocatedBytes(thread) - before;
        if (bytes > BYTES_MOST) System.out.println(ROUNDS + " rounds of calls made " + bytes + " bytes");
        if (!small || bytes > BYTES_MOST) System.exit(1);
    }

    private static boolean isSmall(Object made) throws IllegalAccessException {
        Set<Object> seen = Collections.newSetFromMap(new IdentityHashMap<>());
        List<Object> open = new ArrayList<>(List.of(made));
        seen.add(made);
        int elements = 0;
        for (int i = 0; i < open.size(); i++) elements += open(open.get(i), seen, open);
        boolean small = open.size() <= OBJECTS_MOST && elements <= ELEMENTS_MOST;
        if (!small) System.out.println("a new object has " + open.size() + " objects and " + elements + " fields and elements");
        return small;
    }

    /** How many fields or elements a thing has; the things in them are put to those that are still to be opened. */
    private static int open(Object thing, Set<Object> seen, List<Object> open) throws IllegalAccessException {
        if (thing.getClass().isArray()) {
            boolean plain = thing.getClass().getComponentType().isPrimitive();
            for (int i = 0; !plain && i < Array.getLength(thing); i++) put(Array.get(thing, i), seen, open);
            return Array.getLength(thing);
        }
        int fields = 0;
        for (Field field : thing.getClass().getDeclaredFields()) {
            if (Modifier.isStatic(field.getModifiers())) continue;
            fields++;
            field.setAccessible(true);
            if (!field.getType().isPrimitive()) put(field.get(thing), seen, open);
        }
        return fields;
    }

    private static void put(Object thing, Set<Object> seen, List<Object> open) {
        if (thing != null && seen.add(thing)) open.add(thing);
    }

    private static void everyCall(CrashTies x, int rounds) {
        for (int i = 0; i < rounds; i++) {
            peopleAndClaims(x, i);
            tiesAndLots(x, i);
            findingsAndRows(x, i);
            host(x, i);
        }
    }

    private static void peopleAndClaims(CrashTies x, int i) {
        x.feed(0x2031206669206b73L << 8 | 'a', 8);
        x.feed(0x3b313d, 3);
        x.rules();
        x.size(i % 4, 10 + i % 90);
        x.person(i % 4, false);
        x.personOf(i % 5, i % 4);
        x.join(0, i % 5);
        x.claim(0, 0, 0, 0, 0);
        x.claimOf(i % 9, i % 14);
        x.seat(i % 9, i % 4, i % 3 - 1);
        x.set(i % 7, i % 10);
    }

    private static void tiesAndLots(CrashTies x, int i) {
        x.tie(i % 9, (i + 1) % 9);
        x.tied(i % 9);
        x.hang(i % 9);
        x.steps(i % 5, (i + 1) % 5);
        x.turned(i % 5);
        x.score(i % 512);
        x.lot(i % 2);
        x.seen(i % 1000);
        x.without(i % 4);
        x.hold();
        x.odds(i % 5, i % 2);
        x.likely(i % 9);
        x.best(i % 2);
    }

    private static void findingsAndRows(CrashTies x, int i) {
        x.says(i % 9);
        x.found(i % 9, i % 3 - 1, i % 2 == 0);
        x.rate(i % 2);
        x.right(i % 4);
        x.seed(i);
        x.draw();
        x.prove();
        x.row(i % 36, i % 3);
        x.alterRow(i % 36, i % 3, i % 9);
        x.judge();
    }

    private static void host(CrashTies x, int i) {
        x.sheet(i % 4, i % 5 - 1, i % 41);
        x.put(i % 4, i % 40, i);
        x.item(i % 4, i % 4, i % 40);
        x.shelf(i % 4, i % 3, i % 4);
        x.taken(i % 4, i % 14);
        x.act(i % 4, i % 4, i);
        x.trace(i % 8);
        x.many(i % 8);
        x.keep();
        x.again();
    }
}
