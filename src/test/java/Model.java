import java.math.BigInteger;
import java.util.ArrayList;
import java.util.List;
import java.util.Random;

/**
 * The document once more, in its plainest form: every RIDE is gone through, every RULE is tried.
 * It shares nothing with the class, and makes up its countries itself, as trees and as texts.
 */
final class Model {
    static final int FORK = 0;
    static final int TURN = 1;
    static final int INN = 2;
    static final int END = 3;
    static final long UNIT = 10_000_000_000L;

    static final class Broken extends RuntimeException {
        private static final long serialVersionUID = 1L;
    }

    /** A SUM or a TEST, as a tree and as a text. */
    interface Tree {
        long tell(int step, int place, int day);

        String text();
    }

    record Number(int number) implements Tree {
        public long tell(int step, int place, int day) {
            return number;
        }

        public String text() {
            return "" + number;
        }
    }

    record Word(String word) implements Tree {
        public long tell(int step, int place, int day) {
            return word.equals("step") ? step : word.equals("place") ? place : day;
        }

        public String text() {
            return " " + word + " ";
        }
    }

    record In(String open, Tree tree, String close) implements Tree {
        public long tell(int step, int place, int day) {
            return tree.tell(step, place, day);
        }

        public String text() {
            return open + tree.text() + close;
        }
    }

    record Not(Tree tree) implements Tree {
        public long tell(int step, int place, int day) {
            return 1 - tree.tell(step, place, day);
        }

        public String text() {
            return " not " + tree.text();
        }
    }

    record Two(Tree left, String how, Tree right) implements Tree {
        public long tell(int step, int place, int day) {
            long a = left.tell(step, place, day);
            if (how.equals("or") && a == 1 || how.equals("and") && a == 0) {
                return a;
            }
            long b = right.tell(step, place, day);
            switch (how) {
                case "+": return inRange(a + b);
                case "-": return inRange(a - b);
                case "*": return inRange(a * b);
                case "/": if (b == 0) throw new Broken(); return inRange(a / b);
                case "<": return a < b ? 1 : 0;
                case ">": return a > b ? 1 : 0;
                case "=": return a == b ? 1 : 0;
                default: return b;
            }
        }

        public String text() {
            return left.text() + " " + how + " " + right.text();
        }
    }

    static long inRange(long sum) {
        if (Math.abs(sum) > 1_000_000_000L) {
            throw new Broken();
        }
        return sum;
    }

    static final class Place {
        int kind;
        int look;
        int toll;
        int[] roads = new int[0];
        int[] tenths = new int[0];
        Tree sum;
        Tree test;

        String text() {
            StringBuilder all = new StringBuilder();
            switch (kind) {
                case FORK -> all.append("fork ").append(look).append(" to ");
                case TURN -> all.append("turn ");
                case INN -> all.append("inn ").append(toll).append(" to ");
                default -> all.append("end ").append(sum.text()).append(test == null ? "" : " if " + test.text());
            }
            for (int i = 0; i < roads.length; i++) {
                all.append(i > 0 ? "," : "").append(roads[i]);
                if (kind == TURN) {
                    all.append(" by ").append(tenths[i]);
                }
            }
            return all.toString();
        }
    }

    final List<Place> places = new ArrayList<>();
    int start = 0;
    int day = 10;
    int late = 0;
    int lost = 0;
    final int[][] rule = new int[6][];

    Model() {
        for (int look = 0; look < 6; look++) {
            rule[look] = new int[] {10, 0, 0};
        }
    }

    String text() {
        StringBuilder all = new StringBuilder();
        for (Place p : places) {
            all.append(all.length() > 0 ? ";" : "").append(p.text());
        }
        return all.toString().replace("  ", " ");
    }

    /** Whether the text is within what the document allows: 400 bytes, 50 PARTS. */
    boolean fits() {
        int parts = 0;
        for (Place p : places) {
            String[] tokens = p.kind == END ? p.text().replaceAll("[^a-z0-9]", " ").split(" +") : new String[0];
            for (String token : tokens) {
                parts += token.matches("[0-9]+|step|place|day") ? 1 : 0;
            }
        }
        return parts <= 50 && text().length() <= 400;
    }

    // ---- made up by chance

    static Model any(Random r, int most, int looks, int ends) {
        Model m = new Model();
        int n = 1 + r.nextInt(most);
        for (int i = 0; i < n; i++) {
            m.places.add(anyPlace(r, n, looks, ends));
        }
        return m;
    }

    private static Place anyPlace(Random r, int n, int looks, int ends) {
        Place p = new Place();
        int dice = r.nextInt(10);
        p.kind = dice < ends ? END : dice == 9 ? INN : dice == 8 ? TURN : FORK;
        int many = p.kind == INN ? 1 : p.kind == END ? 0 : 1 + r.nextInt(3);
        p.roads = new int[many];
        p.tenths = new int[many];
        int rest = 10;
        for (int i = 0; i < many; i++) {
            p.roads[i] = r.nextInt(12) == 0 ? r.nextInt(16) : r.nextInt(n);
            p.tenths[i] = i == many - 1 ? rest : 1 + r.nextInt(rest - (many - 1 - i));
            rest -= p.tenths[i];
        }
        p.look = r.nextInt(looks);
        p.toll = p.kind == INN ? r.nextInt(100) : 0;
        if (p.kind == END) {
            p.sum = anySum(r, 1);
            p.test = r.nextInt(3) == 0 ? anyTest(r, 1) : null;
        }
        return p;
    }

    static Tree anyPart(Random r, int depth) {
        int dice = r.nextInt(8);
        if (dice == 0 && depth > 0) {
            return new In("[", anySum(r, depth - 1), "]");
        }
        if (dice < 4) {
            return new Word(new String[] {"step", "place", "day"}[r.nextInt(3)]);
        }
        return new Number(r.nextInt(4) == 0 ? r.nextInt(1001) : r.nextInt(6));
    }

    static Tree anyTerm(Random r, int depth) {
        Tree t = anyPart(r, depth);
        while (r.nextInt(4) == 0) {
            t = new Two(t, r.nextBoolean() ? "*" : "/", anyPart(r, depth));
        }
        return t;
    }

    static Tree anySum(Random r, int depth) {
        Tree t = anyTerm(r, depth);
        while (r.nextInt(3) == 0) {
            t = new Two(t, r.nextBoolean() ? "+" : "-", anyTerm(r, depth));
        }
        return t;
    }

    static Tree anyPlain(Random r, int depth) {
        int dice = r.nextInt(6);
        if (dice == 0) {
            return new Not(anyPlain(r, depth));
        }
        if (dice == 1 && depth > 0) {
            return new In("(", anyTest(r, depth - 1), ")");
        }
        return new Two(anySum(r, depth), new String[] {"<", ">", "="}[r.nextInt(3)], anySum(r, depth));
    }

    static Tree anyBoth(Random r, int depth) {
        Tree t = anyPlain(r, depth);
        while (r.nextInt(4) == 0) {
            t = new Two(t, "and", anyPlain(r, depth));
        }
        return t;
    }

    static Tree anyTest(Random r, int depth) {
        Tree t = anyBoth(r, depth);
        while (r.nextInt(4) == 0) {
            t = new Two(t, "or", anyBoth(r, depth));
        }
        return t;
    }

    // ---- RIDES

    boolean isThere(int place) {
        return place < places.size();
    }

    long pays(int place, int step) {
        Place p = places.get(place);
        try {
            long sum = p.sum.tell(step, place, day);
            if (p.test != null && p.test.tell(step, place, day) == 0) {
                return 0;
            }
            return Math.max(-999, Math.min(999, sum));
        } catch (Broken b) {
            return 0;
        }
    }

    /** NONE if he goes on from there. */
    Long over(int place, int step) {
        if (!isThere(place)) {
            return (long) lost;
        }
        if (places.get(place).kind == END) {
            return pays(place, step);
        }
        return step == day ? (long) late : null;
    }

    int[] tenthsAt(Place p, int[][] by) {
        if (p.kind == TURN) {
            return p.tenths;
        }
        if (p.kind == INN) {
            return new int[] {10};
        }
        int[] all = new int[p.roads.length];
        for (int road = 0; road < 3; road++) {
            all[Math.min(road, all.length - 1)] += by[p.look][road];
        }
        return all;
    }

    long worth(int place, int step, int[][] by) {
        Long end = over(place, step);
        if (end != null) {
            return end * UNIT;
        }
        Place p = places.get(place);
        int[] tenths = tenthsAt(p, by);
        long sum = 0;
        for (int i = 0; i < tenths.length; i++) {
            if (tenths[i] > 0) {
                long then = worth(p.roads[i], step + 1, by);
                if (then % 10 != 0) {
                    throw new IllegalStateException("not exact");
                }
                sum += then / 10 * tenths[i];
            }
        }
        return sum - p.toll * UNIT;
    }

    /** What each RIDE of a RULE is like: its chance in parts of UNIT, its places. */
    interface Seen {
        void ride(long chance, List<Integer> way);
    }

    void rides(long chance, List<Integer> way, Seen seen) {
        int place = way.get(way.size() - 1);
        int step = way.size() - 1;
        if (over(place, step) != null) {
            seen.ride(chance, way);
            return;
        }
        Place p = places.get(place);
        int[] tenths = tenthsAt(p, rule);
        for (int i = 0; i < tenths.length; i++) {
            if (tenths[i] > 0) {
                way.add(p.roads[i]);
                rides(chance / 10 * tenths[i], way, seen);
                way.remove(way.size() - 1);
            }
        }
    }

    void allRides(Seen seen) {
        List<Integer> way = new ArrayList<>();
        way.add(start);
        rides(UNIT, way, seen);
    }

    // ---- RULES

    int roadsOf(int look) {
        int most = 0;
        for (Place p : places) {
            if (p.kind == FORK && p.look == look) {
                most = Math.max(most, p.roads.length);
            }
        }
        return most;
    }

    int used() {
        int looks = 0;
        for (int look = 0; look < 6; look++) {
            looks |= roadsOf(look) > 0 ? 1 << look : 0;
        }
        return looks;
    }

    long best;
    long having;
    long rules;
    int[][] first;

    /** The last LOOK changes fastest, so that the first found is the first as a row. */
    void tryAll(int look, int looks, boolean dice, int[][] by) {
        if (look == 6) {
            rules++;
            long w = worth(start, 0, by);
            if (rules == 1 || w > best) {
                best = w;
                having = 0;
                first = new int[6][];
                for (int i = 0; i < 6; i++) {
                    first[i] = by[i].clone();
                }
            }
            having += w == best ? 1 : 0;
            return;
        }
        if ((looks >> look & 1) == 0) {
            tryAll(look + 1, looks, dice, by);
            return;
        }
        int roads = roadsOf(look);
        if (!dice) {
            for (int road = 0; road < roads; road++) {
                by[look] = new int[3];
                by[look][road] = 10;
                tryAll(look + 1, looks, dice, by);
            }
            return;
        }
        for (int zero = 0; zero <= 10; zero++) {
            for (int one = 0; one <= 10 - zero; one++) {
                int two = 10 - zero - one;
                if (two > 0 && roads < 3 || one > 0 && roads < 2) {
                    continue;
                }
                by[look] = new int[] {zero, one, two};
                tryAll(look + 1, looks, dice, by);
            }
        }
    }

    void plain() {
        rules = 0;
        int[][] by = new int[6][];
        for (int look = 0; look < 6; look++) {
            by[look] = new int[] {10, 0, 0};
        }
        tryAll(0, used(), false, by);
    }

    long dieRules(int looks) {
        long many = 1;
        for (int look = 0; look < 6; look++) {
            if (((looks & used()) >> look & 1) == 1) {
                many *= new int[] {1, 1, 11, 66}[roadsOf(look)];
            }
        }
        return many;
    }

    void die(int looks) {
        rules = 0;
        int[][] by = new int[6][];
        for (int look = 0; look < 6; look++) {
            by[look] = rule[look].clone();
        }
        tryAll(0, looks & used(), true, by);
    }

    // ---- POLYNOMIAL: its value where p is a whole number

    BigInteger worthAt(int place, int step, int look, BigInteger p) {
        Long end = over(place, step);
        BigInteger unit = BigInteger.TEN.pow(day - step);
        if (end != null) {
            return unit.multiply(BigInteger.valueOf(end));
        }
        Place here = places.get(place);
        BigInteger sum = BigInteger.ZERO;
        if (here.kind == FORK && here.look == look) {
            BigInteger zero = worthAt(here.roads[0], step + 1, look, p);
            BigInteger one = worthAt(here.roads[Math.min(1, here.roads.length - 1)], step + 1, look, p);
            sum = zero.multiply(p).add(one.multiply(BigInteger.ONE.subtract(p))).multiply(BigInteger.TEN);
        } else {
            int[] tenths = tenthsAt(here, rule);
            for (int i = 0; i < tenths.length; i++) {
                if (tenths[i] > 0) {
                    sum = sum.add(worthAt(here.roads[i], step + 1, look, p).multiply(BigInteger.valueOf(tenths[i])));
                }
            }
        }
        return sum.subtract(unit.multiply(BigInteger.valueOf(here.toll)));
    }

    // ---- POCKET, KNOWING, SIGNS

    long pocketWorth(int place, int step, int pocket, int[][] by) {
        Long end = over(place, step);
        if (end != null) {
            return end * UNIT;
        }
        Place p = places.get(place);
        if (p.kind == FORK) {
            int chosen = by[p.look][pocket];
            return pocketWorth(p.roads[Math.min(chosen / 2, p.roads.length - 1)], step + 1, chosen % 2, by);
        }
        int[] tenths = tenthsAt(p, rule);
        long sum = 0;
        for (int i = 0; i < tenths.length; i++) {
            sum += pocketWorth(p.roads[i], step + 1, pocket, by) / 10 * tenths[i];
        }
        return sum - p.toll * UNIT;
    }

    long pocket(int key, int[][] by) {
        if (key == 12) {
            return pocketWorth(start, 0, 0, by);
        }
        int roads = roadsOf(key / 2);
        if (roads == 0) {
            return pocket(key + 1, by);
        }
        long most = Long.MIN_VALUE;
        for (int choice = 0; choice < roads * 2; choice++) {
            by[key / 2][key % 2] = choice;
            most = Math.max(most, pocket(key + 1, by));
        }
        return most;
    }

    long knowing(int place, int step) {
        Long end = over(place, step);
        if (end != null) {
            return end * UNIT;
        }
        Place p = places.get(place);
        if (p.kind == FORK) {
            long most = Long.MIN_VALUE;
            for (int road : p.roads) {
                most = Math.max(most, knowing(road, step + 1));
            }
            return most;
        }
        int[] tenths = tenthsAt(p, rule);
        long sum = 0;
        for (int i = 0; i < tenths.length; i++) {
            sum += knowing(p.roads[i], step + 1) / 10 * tenths[i];
        }
        return sum - p.toll * UNIT;
    }

    List<Integer> forksOf(int look) {
        List<Integer> forks = new ArrayList<>();
        for (int i = 0; i < places.size(); i++) {
            if (places.get(i).kind == FORK && places.get(i).look == look) {
                forks.add(i);
            }
        }
        return forks;
    }

    /** WORTH of the BEST of PLAIN RULES for each set (bits of PLACES) of SIGNS. */
    long withSigns(int look, int signs) {
        List<Integer> forks = forksOf(look);
        for (int fork : forks) {
            places.get(fork).look = (signs >> fork & 1) == 1 ? 5 : look;
        }
        plain();
        for (int fork : forks) {
            places.get(fork).look = look;
        }
        return best;
    }
}
