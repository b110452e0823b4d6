import java.lang.management.ManagementFactory;
import java.lang.reflect.Array;
import java.lang.reflect.Field;
import java.lang.reflect.Modifier;
import java.util.IdentityHashMap;
import java.util.Map;
import java.util.Random;

/** Calls with any numbers in any state: none throws, all answer the same again, none needs room. */
public final class WildTest {
    private static final int[] NUMBERS = {
        Integer.MIN_VALUE, Integer.MIN_VALUE + 1, -1000001, -1000, -999, -64, -17, -2, -1, 0, 0, 0, 1, 1, 2, 2, 3, 3,
        4, 5, 6, 7, 8, 9, 10, 11, 12, 15, 16, 17, 18, 31, 32, 63, 64, 99, 100, 101, 399, 400, 401, 999, 1000,
        1000000, 1000001, Integer.MAX_VALUE - 1, Integer.MAX_VALUE};

    public static void main(String[] args) {
        for (int seed = 0; seed < 600; seed++) {
            Random r = new Random(seed);
            ForgetfulRider x = new ForgetfulRider();
            ForgetfulRider y = new ForgetfulRider();
            for (int i = 0; i < 511; i++) {
                if (r.nextInt(25) == 0) {
                    newCountry(r, x, y);
                }
                long call = r.nextLong();
                Told.due("seed " + seed + " call " + i, call(x, call), call(y, call));
            }
        }
        room();
        Told.finish("WildTest");
    }

    static String anyText(Random r) {
        String text = Model.any(r, 16, 6, 2 + r.nextInt(5)).text();
        return text.length() > 380 ? text.substring(0, 380) : text;
    }

    private static void newCountry(Random r, ForgetfulRider x, ForgetfulRider y) {
        String text = anyText(r);
        x.end(0);
        y.end(0);
        Told.due("country of " + text, Told.read(x, text), Told.read(y, text));
    }

    private static int any(Random r) {
        return r.nextInt(3) == 0 ? NUMBERS[r.nextInt(NUMBERS.length)] : r.nextInt(8);
    }

    /** Which call, by its place in the list below. */
    static int which(long call) {
        return new Random(call ^ 77).nextInt(36);
    }

    static long call(ForgetfulRider x, long call) {
        Random r = new Random(call);
        int a = any(r);
        int b = any(r);
        int c = any(r);
        switch (which(call)) {
            case 0: return x.feed(a, b, c, any(r), r.nextInt());
            case 1: return x.end(a);
            case 2: return r.nextInt(4) == 0 ? x.country() : 0;
            case 3: return x.fault();
            case 4: return x.terms(a, b);
            case 5: return x.of(a, b);
            case 6: return x.pays(a, b);
            case 7: return x.paint(a, b);
            case 8: return x.used();
            case 9: return x.rule(a, b, c);
            case 10: return x.tenths(a, b);
            case 11: return x.worth();
            case 12: return x.from(a, b);
            case 13: return x.plain(a);
            case 14: return x.road(a);
            case 15: return x.follow();
            case 16: return x.die(a, b);
            case 17: return x.cast(a);
            case 18: return x.power(a, b);
            case 19: return x.pocket();
            case 20: return x.knowing();
            case 21: return x.knows(a, b);
            case 22: return x.signs(a, r.nextInt(3) == 0 ? r.nextLong() : b * 10_000_000_000L, c);
            case 23: return x.signed(a);
            case 24: return x.visits(a);
            case 25: return x.ends(a);
            case 26: return x.belief(a, b);
            case 27: return x.bet(a, b);
            case 28: return x.price(a);
            case 29: return x.ride(a);
            case 30: return x.rode(a);
            case 31: return x.image(a);
            case 32: return x.back(a);
            case 33: return x.count(a);
            case 34: return x.status();
            default: return x.knows(b, a);
        }
    }

    /** All rows are made with the object, and those are few. */
    private static void room() {
        ForgetfulRider x = Told.in("fork 0 to 1,2,3;fork 1 to 0,2,4;turn 0 by 4,1 by 6;end step*2 if step>3;inn 3 to 0");
        long[] room = new long[2];
        try {
            walk(x, new IdentityHashMap<>(), room);
        } catch (IllegalAccessException e) {
            throw new IllegalStateException(e);
        }
        System.out.println("an object has " + room[0] + " objects and arrays, " + room[1] + " fields and elements");
        Told.due("objects in one of it", room[0] < 200 ? 1 : 0, 1);
        Told.due("fields in one of it", room[1] < 8000 ? 1 : 0, 1);
        long sum = 0;
        long before = 0;
        for (int i = 0; i < 3; i++) {
            before = allocated();
            sum += x.worth() + x.from(1, 2) + x.plain(0) + x.road(1) + x.follow() + x.die(3, 1) + x.cast(1);
            sum += x.power(0, 1) + x.pocket() + x.knowing() + x.knows(0, 1) + x.signs(0, 5, 1) + x.signed(0);
            sum += x.visits(1) + x.ends(3) + x.belief(0, 1) + x.belief(0, 0) + x.bet(0, 1) + x.price(0);
            sum += x.ride(5) + x.rode(1) + x.image(0) + x.back(0) + x.count(0) + x.status();
            sum += x.feed(0x656e6420, 0x39202020, 0x20202020, 0x20202020, 0x20202020) + x.country() + x.back(0);
        }
        long needed = allocated() - before;
        Told.due("bytes made by one of each call (" + sum % 2 + ")", needed < 1000 ? 0 : needed, 0);
    }

    private static long allocated() {
        return ManagementFactory.getThreadMXBean() instanceof com.sun.management.ThreadMXBean t
                ? t.getThreadAllocatedBytes(Thread.currentThread().getId()) : 0;
    }

    private static void walk(Object o, Map<Object, Object> seen, long[] room) throws IllegalAccessException {
        if (o == null || seen.put(o, o) != null) {
            return;
        }
        room[0]++;
        if (o.getClass().isArray()) {
            room[1] += Array.getLength(o);
            for (int i = 0; o instanceof Object[] && i < Array.getLength(o); i++) {
                walk(Array.get(o, i), seen, room);
            }
            return;
        }
        for (Field f : o.getClass().getDeclaredFields()) {
            if (!Modifier.isStatic(f.getModifiers())) {
                room[1]++;
                if (!f.getType().isPrimitive()) {
                    f.setAccessible(true);
                    walk(f.get(o), seen, room);
                }
            }
        }
    }
}
