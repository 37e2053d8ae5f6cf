import java.lang.management.ManagementFactory;
import java.lang.reflect.Array;
import java.lang.reflect.Field;
import java.lang.reflect.Modifier;
import java.util.IdentityHashMap;

/** Numbers of all sizes never make a call throw; a new object is small, and its calls make no further ones. */
public final class RoomTest {
    private static final int[] NUMBERS = {0, 1, 2, 3, 4, 5, 7, 8, 9, 10, 11, 12, 20, 35, 36, 40, 60, 99, 119, 120, 121, 999, 3571,
        -1, -2, -3, -9, -10, 1000, Integer.MAX_VALUE, Integer.MIN_VALUE, Integer.MAX_VALUE - 1, 65536, 0x73687574, 0x20313031};
    private static long seed = 20261116;

    private static int any(int below) {
        seed = seed * 6364136223846793005L + 1442695040888963407L;
        return (int) ((seed >>> 33) % below);
    }

    private static int number() { return NUMBERS[any(any(3) == 0 ? NUMBERS.length : 14)]; }

    public static void main(String[] args) {
        long[] made = new long[2];
        measure(new WindBoat(), made, new IdentityHashMap<>());
        boolean small = made[0] < 200 && made[1] < 20000;
        if (!small) System.out.println("a new object makes " + made[0] + " objects with " + made[1] + " fields and elements");
        long sum = 0;
        for (int run = 0; run < 400; run++) sum += calls(new WindBoat());
        com.sun.management.ThreadMXBean threads = (com.sun.management.ThreadMXBean) ManagementFactory.getThreadMXBean();
        WindBoat x = new WindBoat();
        long me = Thread.currentThread().getId();
        long before = threads.getThreadAllocatedBytes(me);
        sum += calls(x);
        long bytes = threads.getThreadAllocatedBytes(me) - before;
        boolean lean = bytes < 4000;
        if (!lean) System.out.println("512 calls made " + bytes + " bytes of objects");
        if (!small || !lean) System.exit(1);
        System.out.println("no call threw or made an object (" + made[1] + " fields and elements in a new one; sum " + sum + ")");
    }

    private static long calls(WindBoat x) {
        long sum = 0;
        for (int i = 0; i < 3; i++) sum += x.sail(i);
        for (int i = 0; i < 25; i++) sum += x.speed(i / 5, i % 5, 9 + i * 3);
        for (int i = 0; i < 7; i++) sum += x.wind(i, any(8), any(30));
        sum += x.at(100 * any(36) + 10 * any(8) + any(3), any(20));
        for (int i = 0; i < 476; i++) sum += call(x, any(45), number(), number(), number());
        return sum;
    }

    private static long call(WindBoat x, int which, int a, int b, int c) {
        switch (which) {
            case 0: return x.cell(a, b, c);
            case 1: return x.wind(a, b, c);
            case 2: return x.blows(a, b, c);
            case 3: return x.mark(a);
            case 4: return x.speed(a, b, c);
            case 5: return x.learn(a, b, c);
            case 6: return x.table(a, b, c);
            case 7: return x.sail(a);
            case 8: return x.pace(a, b, c);
            case 9: return x.sailOf(a, b);
            case 10: return x.taken(a, b);
            case 11: return x.hand();
            case 12: return x.sleep(a, b);
            case 13: return x.feed(a, b);
            case 14: return x.wipe();
            case 15: return x.rule(a, b);
            case 16: return x.says(a, b, c);
            case 17: return x.why(a, b, c);
            case 18: return x.soonest(a, b, c);
            case 19: return x.plan(a, b, c);
            case 20: return x.telling(a, b);
            case 21: return x.choice(a, b);
            case 22: return x.group(a, b);
            case 23: return x.comes(a, b);
            case 24: return x.tree(a, b);
            case 25: return x.worth();
            case 26: return x.weight(a);
            case 27: return x.rival(a, b, c);
            case 28: return x.game();
            case 29: return x.at(a, b);
            case 30: return x.stay(a);
            case 31: return x.go(a);
            case 32: return x.raise(a);
            case 33: return x.mend(a);
            case 34: return x.boat(a);
            case 35: return x.lost(a, b);
            case 36: return x.count(a);
            case 37: return x.image();
            case 38: return x.back();
            case 39: return x.lay(a);
            case 40: return x.set(a, b);
            case 41: return x.tear();
            case 42: return x.row(a);
            case 43: return x.copy(a, b, c);
            default: return x.status(a);
        }
    }

    /** How many objects and arrays hang on one, and how many fields and elements these have. */
    private static void measure(Object o, long[] made, IdentityHashMap<Object, Boolean> seen) {
        if (o == null || seen.put(o, true) != null) return;
        made[0]++;
        if (o.getClass().isArray()) {
            made[1] += Array.getLength(o);
            return;
        }
        for (Field f : o.getClass().getDeclaredFields()) {
            if (Modifier.isStatic(f.getModifiers())) continue;
            made[1]++;
            if (!f.getType().isPrimitive()) {
                f.setAccessible(true);
                try {
                    measure(f.get(o), made, seen);
                } catch (IllegalAccessException e) {
                    throw new IllegalStateException(e);
                }
            }
        }
    }
}
