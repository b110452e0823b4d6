import java.lang.reflect.Method;
import java.lang.reflect.Modifier;
import java.nio.charset.StandardCharsets;
import java.util.ArrayList;
import java.util.Arrays;
import java.util.Comparator;
import java.util.List;
import java.util.Random;

/** Whole runs of calls by chance, each asked of the class and of its twin. */
public final class TwinTest {
    private static final int[] EDGES = {
        Integer.MIN_VALUE, -1000, -999, -2, -1, 0, 1, 2, 3, 4, 5, 6, 7, 9, 10, 11, 12, 15, 16, 17, 18, 63, 64, 99, 100, 101,
        999, 1000, 1000000, 1000001, Integer.MAX_VALUE};
    private static final String[] TOKENS = (
        "fork turn inn end to by if or and not step place day lake 0 1 2 5 6 9 10 11 15 16 99 100 1000 1001 007 "
        + "( ) [ ] < > = + - * / , ; F ?").split(" ");
    private static final List<String> OF_PLACES =
        List.of("of", "pays", "paint", "from", "knows", "visits", "ends", "belief", "bet", "price");
    private static final List<Method> FACE = face();

    private final Random r;
    private final ForgetfulRider x = new ForgetfulRider();
    private final Twin twin = new Twin();
    private final List<String> told = new ArrayList<>();
    private int calls = 0;

    private TwinTest(long seed) {
        r = new Random(seed);
    }

    /** With a number: so many runs, from a second number on. */
    public static void main(String[] args) throws ReflectiveOperationException {
        int many = args.length > 0 ? Integer.parseInt(args[0]) : 60;
        int from = args.length > 1 ? Integer.parseInt(args[1]) : 0;
        for (int seed = from; seed < from + many; seed++) {
            new TwinTest(seed).run(seed);
        }
        Told.finish("TwinTest");
    }

    private static List<Method> face() {
        return Arrays.stream(ForgetfulRider.class.getDeclaredMethods()).filter(m -> Modifier.isPublic(m.getModifiers()))
                .sorted(Comparator.comparing(Method::getName)).toList();
    }

    private void run(int seed) throws ReflectiveOperationException {
        while (calls < 480) {
            if (calls == 40 || calls > 40 && r.nextInt(30) == 0) {
                newCountry();
            }
            Method m = FACE.get(r.nextInt(FACE.size()));
            boolean seldom = List.of("feed", "end", "country", "back").contains(m.getName());
            if (!seldom || r.nextInt(4) == 0) {
                ask(seed, m, numbers(m));
            }
        }
    }

    private void ask(int seed, Method m, Object[] with) throws ReflectiveOperationException {
        calls++;
        Object got = m.invoke(x, with);
        Object want = Twin.class.getMethod(m.getName(), m.getParameterTypes()).invoke(twin, with);
        told.add(m.getName() + Arrays.toString(with) + " " + want);
        String run = got.equals(want) ? "" : " behind " + String.join("; ", told);
        Told.due("seed " + seed + " call " + calls + run, ((Number) got).longValue(), ((Number) want).longValue());
    }

    private Object[] numbers(Method m) {
        Object[] all = new Object[m.getParameterCount()];
        for (int i = 0; i < all.length; i++) {
            if (m.getParameterTypes()[i] == long.class) {
                long near = twin.plain(0) == ForgetfulRider.NOTHING ? 0 : r.nextBoolean() ? twin.plain(0) : twin.knowing();
                all[i] = r.nextInt(8) == 0 ? r.nextLong() : near + r.nextInt(3) - 1;
            } else {
                all[i] = number(m.getName(), i);
            }
        }
        return all;
    }

    /** Mostly a number that can be; now and then an edge. */
    private int number(String name, int i) {
        if (r.nextInt(12) == 0) {
            return EDGES[r.nextInt(EDGES.length)];
        }
        if (i == 0 && OF_PLACES.contains(name)) {
            return name.equals("ends") && r.nextInt(3) == 0 ? 16 + r.nextInt(2) : r.nextInt(1 + twin.count(0));
        }
        switch (name + i) {
            case "terms0": return r.nextInt(4);
            case "terms1": return r.nextInt(2) == 0 ? r.nextInt(1999) - 999 : r.nextInt(3) == 0 ? r.nextInt(16) : r.nextInt(3);
            case "ride0": return r.nextInt(1000001);
            case "bet1": return r.nextInt(101);
            case "die0":
            case "cast0": return r.nextInt(64);
            case "rule1": return r.nextInt(11);
            case "rode0": return r.nextInt(12) - 1;
            case "count0":
            case "power1": return r.nextInt(12);
            case "image0":
            case "back0":
            case "belief1":
            case "signs2": return r.nextInt(2);
            case "plain0":
            case "die1":
            case "tenths1": return r.nextInt(3);
            default: return r.nextInt(6);
        }
    }

    private void newCountry() throws ReflectiveOperationException {
        boolean any = r.nextInt(3) == 0;
        String text = any ? Model.any(r, 1 + r.nextInt(16), 1 + r.nextInt(6), 1 + r.nextInt(5)).text() : crossroads();
        for (int i = r.nextInt(4); i == 1; i = r.nextInt(2)) {
            text = changed(text);
        }
        byte[] bytes = text.substring(0, Math.min(400, text.length())).getBytes(StandardCharsets.ISO_8859_1);
        Method feed = ForgetfulRider.class.getMethod("feed", int.class, int.class, int.class, int.class, int.class);
        Method end = ForgetfulRider.class.getMethod("end", int.class);
        ask(0, end, new Object[] {0});
        for (int at = 0; at < bytes.length; at += 20) {
            Object[] five = new Object[5];
            for (int i = 0; i < 5; i++) {
                int four = 0;
                for (int j = at + 4 * i; j < at + 4 * i + 4; j++) {
                    four = four << 8 | (j < bytes.length ? bytes[j] & 255 : 32);
                }
                five[i] = four;
            }
            ask(0, feed, five);
        }
        if (r.nextBoolean()) {
            ask(0, end, new Object[] {bytes.length});
        }
        told.add("\"" + text + "\"");
        ask(0, ForgetfulRider.class.getMethod("country"), new Object[0]);
        ask(0, ForgetfulRider.class.getMethod("fault"), new Object[0]);
    }

    /** Mostly forks, of few looks, from which many ways go on. */
    private String crossroads() {
        int size = 3 + r.nextInt(13);
        int looks = 1 + r.nextInt(3);
        StringBuilder all = new StringBuilder();
        for (int i = 0; i < size; i++) {
            int dice = i == 0 ? 0 : r.nextInt(10);
            all.append(i == 0 ? "" : ";");
            if (dice < 5) {
                all.append("fork ").append(r.nextInt(looks)).append(" to ").append(to(size));
                for (int more = r.nextInt(3); more > 0; more--) {
                    all.append(",").append(to(size));
                }
            } else if (dice < 7) {
                int tenths = 1 + r.nextInt(9);
                all.append("turn ").append(to(size)).append(" by ").append(tenths).append(",").append(to(size));
                all.append(" by ").append(10 - tenths);
            } else if (dice == 7) {
                all.append("inn ").append(r.nextInt(30)).append(" to ").append(to(size));
            } else {
                all.append("end ").append(r.nextInt(100)).append(r.nextBoolean() ? "" : "-step*9");
            }
        }
        return all.toString();
    }

    private int to(int size) {
        return r.nextInt(15) == 0 ? r.nextInt(16) : r.nextInt(size);
    }

    private String changed(String text) {
        int from = r.nextInt(text.length() + 1);
        int to = Math.min(text.length(), from + r.nextInt(4));
        return text.substring(0, from) + TOKENS[r.nextInt(TOKENS.length)] + text.substring(to);
    }
}
