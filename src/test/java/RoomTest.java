import java.lang.management.ManagementFactory;
import java.lang.reflect.Array;
import java.lang.reflect.Field;
import java.lang.reflect.Modifier;
import java.util.Collections;
import java.util.IdentityHashMap;
import java.util.Random;
import java.util.Set;

/** The room: what an object holds is small, and no call makes anything that stays or is thrown away. */
public final class RoomTest {
    private static final Due due = new Due("RoomTest");
    private static final long OBJECTS = 600;
    private static final long ELEMENTS = 16_000;

    public static void main(String[] args) throws Exception {
        long[] fresh = count(new WildLevels());
        System.out.println("RoomTest: a new object has " + fresh[0] + " objects, " + fresh[1] + " fields and elements");
        due.holds("few objects", fresh[0] <= OBJECTS);
        due.holds("few fields and elements", fresh[1] <= ELEMENTS);
        WildLevels x = new WildLevels();
        random(x, 1, 512);
        long[] used = count(x);
        due.is("objects behind 512 calls", used[0], fresh[0]);
        due.is("fields and elements behind 512 calls", used[1], fresh[1]);
        callsMakeNothing(x);
        due.finish();
    }

    private static void callsMakeNothing(WildLevels x) {
        com.sun.management.ThreadMXBean bean = (com.sun.management.ThreadMXBean) ManagementFactory.getThreadMXBean();
        random(x, 2, 20_000);
        long id = Thread.currentThread().getId();
        long before = bean.getThreadAllocatedBytes(id);
        random(x, 3, 200_000);
        long made = bean.getThreadAllocatedBytes(id) - before;
        due.holds("200,000 calls made " + made + " bytes", made < 200_000);
    }

    private static void random(WildLevels x, int seed, int calls) {
        Random random = new Random(seed);
        for (int n = 0; n < calls; n++) {
            call(x, random, random.nextInt(26));
        }
    }

    private static void call(WildLevels x, Random random, int which) {
        int a = random.nextInt(6), b = random.nextInt(3), c = random.nextInt(6), d = random.nextInt(2), e = random.nextInt(3);
        switch (which) {
            case 0: x.feed("sub kept a1;/+#".charAt(random.nextInt(15))); break;
            case 1: x.end(c); break;
            case 2: x.text(); break;
            case 3: x.fault(); break;
            case 4: x.level(random.nextInt(4) + (c == 0 ? 26 : 1)); break;
            case 5: x.top(); break;
            case 6: x.wake(a, d, c); break;
            case 7: x.sleep(a, d); break;
            case 8: x.will(a, c, b, d, e); break;
            case 9: x.subscribe(a, b, c); break;
            case 10: x.leave(a, c); break;
            case 11: x.alias(a, c); break;
            case 12: x.say(a, b, c, e, d); break;
            case 13: x.carry(a, d, b); break;
            case 14: x.again(a); break;
            case 15: x.tick(c); break;
            case 16: x.rule(a + c); break;
            case 17: x.client(a, b + c); break;
            case 18: x.subscription(a, b, c); break;
            case 19: x.kept(a, c); break;
            case 20: x.had(b); break;
            case 21: x.line(a, d, b, c); break;
            case 22: x.flight(a, b, c); break;
            case 23: x.took(a, b, c); break;
            case 24: x.keep(d); break;
            default: x.back(d); break;
        }
    }

    /** The objects and arrays that can be reached, and their fields and elements. */
    private static long[] count(Object root) throws Exception {
        long[] sums = new long[2];
        count(root, Collections.newSetFromMap(new IdentityHashMap<>()), sums);
        return sums;
    }

    private static void count(Object o, Set<Object> seen, long[] sums) throws Exception {
        if (o == null || !seen.add(o)) {
            return;
        }
        sums[0]++;
        if (o.getClass().isArray()) {
            sums[1] += Array.getLength(o);
            for (int i = 0; i < Array.getLength(o) && !o.getClass().getComponentType().isPrimitive(); i++) {
                count(Array.get(o, i), seen, sums);
            }
            return;
        }
        for (Field field : o.getClass().getDeclaredFields()) {
            if (!Modifier.isStatic(field.getModifiers())) {
                sums[1]++;
                field.setAccessible(true);
                if (!field.getType().isPrimitive()) {
                    count(field.get(o), seen, sums);
                }
            }
        }
    }
}
