import java.lang.management.ManagementFactory;
import java.lang.reflect.Array;
import java.lang.reflect.Field;
import java.lang.reflect.Modifier;
import java.nio.charset.StandardCharsets;
import java.util.IdentityHashMap;

/** What an object and its calls take of the one room: 600,000 objects and arrays, 7.3 million fields and elements. */
public final class RoomTests {
    private static final String FULL = "grid 24 by 12 day 80;plane p node 0 tilt 6 turn 80;"
        + "plane q node 3 tilt 4 turn 48;plane r node 9 tilt 6 turn 60;plane s node 20 tilt 1 turn 80;"
        + "craft a in p phase 0 reach 3;craft b in p phase 40 reach 3;craft c in q phase 5 reach 4;"
        + "craft d in q phase 30 reach 2;craft e in r phase 7 reach 5;craft f in r phase 44 reach 3;"
        + "craft g in s phase 9 reach 6;craft h in s phase 60 reach 12;site sa at 0 0 from 0 to 80;"
        + "site sb at 12 6 from 10 to 40;site sc at 23 11 from 0 to 60;site sd at 5 5 from 3 to 70;"
        + "site se at 7 2 from 0 to 79;site sf at 18 9 from 40 to 80;";
    private static int wrong = 0;
    private static long objects = 0;
    private static long places = 0;

    private static void check(boolean good, String fault) {
        if (!good) {
            wrong++;
            System.out.println("RoomTests: " + fault);
        }
    }

    private static void count(Object o, IdentityHashMap<Object, Boolean> met) throws IllegalAccessException {
        if (o == null || met.put(o, true) != null) {
            return;
        }
        objects++;
        if (o.getClass().isArray()) {
            places += Array.getLength(o);
            for (int i = 0; !o.getClass().getComponentType().isPrimitive() && i < Array.getLength(o); i++) {
                count(Array.get(o, i), met);
            }
            return;
        }
        for (Field f : o.getClass().getDeclaredFields()) {
            if (!Modifier.isStatic(f.getModifiers())) {
                places++;
                f.setAccessible(true);
                if (!f.getType().isPrimitive()) {
                    count(f.get(o), met);
                }
            }
        }
    }

    private static void load(OrbitDesk x, byte[] bytes) {
        for (int i = 0; i < bytes.length; i += 20) {
            int[] five = new int[5];
            for (int k = 0; k < 20; k++) {
                five[k / 4] = five[k / 4] << 8 | (i + k < bytes.length ? bytes[i + k] & 255 : 32);
            }
            x.feed(five[0], five[1], five[2], five[3], five[4]);
        }
        x.end(bytes.length);
    }

    /** Every call of the face once, on the fullest desk. */
    private static long round(OrbitDesk x, int i) {
        long sum = x.has(i) + x.letter(i, i, i) + x.plane(i, i) + x.craft(i, i) + x.site(i, 4) + x.spot(i, i, 0);
        sum += x.sees(i, i, i, i) + x.seen(i, i, i) + x.width(i) + x.passes(i, i, -1) + x.pass(i, i, -1, i, 0);
        sum += x.gaps(i, i) + x.gap(i, i, 0, 0) + x.greatest(i, i) + x.mean(i, i) + x.covered(i) + x.cover(i);
        sum += x.score() + x.worst(1) + x.never() + x.soon(i) + x.next(i, i, i) + x.best(i, 0) + x.even(i % 4, 0);
        sum += x.critical(0) + x.relief(i, 0) + x.bestNode(i % 4, 0) + x.fewest(i, 0) + x.meets(0, i);
        sum += x.extreme(true, 0) + x.depth(i, i, 0) + x.couple(0) + x.carry(i, 0, 1) + x.holders(i, 0, 480);
        sum += x.source(i, 480, 0) + x.suspect(0) + x.tells(0) + x.chance(3) + x.image() + x.octet(i) + x.status(i);
        sum += x.lose(i) ? 1 : 0;
        sum += x.find(i) ? 1 : 0;
        sum += x.phase(i, i) ? 1 : 0;
        sum += x.reach(i, i) ? 1 : 0;
        sum += x.node(i % 4, i) ? 1 : 0;
        sum += x.spread(i % 4, i) + (x.undo() ? 1 : 0);
        return sum;
    }

    public static void main(String[] args) throws Exception {
        byte[] bytes = FULL.getBytes(StandardCharsets.ISO_8859_1);
        OrbitDesk x = new OrbitDesk();
        load(x, bytes);
        check(x.desk() == 19, "the fullest desk stands");
        check(x.has(7) == 240, "its cycle is the longest");
        count(x, new IdentityHashMap<>());
        System.out.println("RoomTests: an object has " + objects + " objects and arrays, " + places + " places");
        check(objects < 400 && places < 60000, "an object is too large");
        round(x, 1);
        com.sun.management.ThreadMXBean beans = (com.sun.management.ThreadMXBean) ManagementFactory.getThreadMXBean();
        long id = Thread.currentThread().getId();
        beans.getThreadAllocatedBytes(id);
        long before = beans.getThreadAllocatedBytes(id);
        long begun = System.nanoTime();
        long sum = 0;
        for (int i = 0; i < 9; i++) {
            sum += round(x, i);
            load(x, bytes);
            sum += x.desk();
        }
        long taken = beans.getThreadAllocatedBytes(id) - before;
        long millis = (System.nanoTime() - begun) / 1000000;
        System.out.println("RoomTests: " + taken + " bytes were made in nine rounds of all calls, " + millis + " ms"
            + (sum == 0 ? "." : ""));
        check(taken < 40000, "calls make objects");
        System.out.println("RoomTests: " + wrong + " wrong");
        if (wrong != 0) {
            System.exit(1);
        }
    }
}
