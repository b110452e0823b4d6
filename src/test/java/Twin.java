import java.math.BigInteger;
import java.util.ArrayList;
import java.util.Arrays;
import java.util.HashMap;
import java.util.List;
import java.util.Map;

/**
 * The document's whole face a second time, with all that it keeps, read from the document alone.
 * Where the class goes backwards (worth) this goes forwards, and the other way round (visits);
 * where it leaves out what can't be best, this tries all.
 */
public final class Twin {
    private static final int NONE = -1;
    private static final long NOTHING = -1_000_000_000_000_000_000L;
    private static final long ONE = 10_000_000_000L;
    private static final int[][] TERM_RANGE = {{0, 15}, {1, 10}, {-999, 999}, {-999, 999}};

    private static final class Broken extends Exception {
        private static final long serialVersionUID = 1L;
    }

    private static final class Fault extends Exception {
        private static final long serialVersionUID = 1L;
        final int at;

        Fault(int at) {
            this.at = at;
        }
    }

    /** A SUM; or a TEST, which is 1 if it is so, else 0. */
    private interface Told {
        long at(int step, int place, int day) throws Broken;
    }

    private record Token(String text, int at) {
        boolean is(String other) {
            return text.equals(other);
        }

        boolean isNumber() {
            return !text.isEmpty() && text.chars().allMatch(c -> c >= '0' && c <= '9');
        }
    }

    private record Place(String kind, int look, int toll, int[] to, int[] by, Told sum, Told test) {
        boolean is(String other) {
            return kind.equals(other);
        }

        Place painted(int with) {
            return new Place(kind, with, toll, to, by, sum, test);
        }
    }

    /** What an IMAGE keeps; never changed, but replaced. */
    private record Kept(List<Place> places, List<Integer> terms, List<List<Integer>> rule) {
    }

    private final List<Integer> tape = new ArrayList<>();
    private int fault = NONE;
    private List<Place> places = List.of();
    private List<Integer> terms = List.of(0, 10, 0, 0);
    private List<List<Integer>> rule = new ArrayList<>();
    private final Map<Integer, Kept> images = new HashMap<>();
    private final Map<Integer, Integer> refused = new HashMap<>();
    private int latest = 0;
    private List<Integer> way = List.of();
    private long gained = 0;

    public Twin() {
        for (int look = 0; look < 6; look++) {
            rule.add(List.of(10, 0, 0));
        }
    }

    private int no(int by) {
        latest = by;
        refused.merge(by, 1, Integer::sum);
        return by;
    }

    private int yes(int answer) {
        latest = 0;
        return answer;
    }

    private static boolean in(long number, long least, long most) {
        return number >= least && number <= most;
    }

    private boolean there(int place) {
        return in(place, 0, places.size() - 1);
    }

    private boolean is(int place, String kind) {
        return there(place) && places.get(place).is(kind);
    }

    private int day() {
        return terms.get(1);
    }

    // ---- promises 2 to 10

    public int feed(int a, int b, int c, int d, int e) {
        if (tape.size() > 380) {
            return NONE;
        }
        for (int four : new int[] {a, b, c, d, e}) {
            tape.addAll(List.of(four >>> 24, four >>> 16 & 255, four >>> 8 & 255, four & 255));
        }
        return tape.size();
    }

    public int end(int n) {
        if (!in(n, 0, tape.size())) {
            return NONE;
        }
        tape.subList(n, tape.size()).clear();
        return n;
    }

    public int country() {
        StringBuilder text = new StringBuilder();
        tape.forEach(b -> text.append((char) b.intValue()));
        tape.clear();
        try {
            places = new Parser(text.toString()).country();
            fault = NONE;
            return yes(places.size());
        } catch (Fault f) {
            fault = f.at;
            return no(-6);
        }
    }

    public int fault() {
        return fault;
    }

    public int terms(int what, int value) {
        if (!in(what, 0, 3) || !in(value, TERM_RANGE[what][0], TERM_RANGE[what][1])) {
            return no(-1);
        }
        List<Integer> then = new ArrayList<>(terms);
        int was = then.set(what, value);
        terms = then;
        return yes(was);
    }

    public int of(int place, int what) {
        if (!there(place) || !in(what, 0, 9)) {
            return NONE;
        }
        Place p = places.get(place);
        int[] row = new int[10];
        Arrays.fill(row, NONE);
        row[0] = List.of("fork", "turn", "inn", "end").indexOf(p.kind());
        row[1] = p.is("fork") ? p.look() : NONE;
        row[2] = p.is("inn") ? p.toll() : NONE;
        row[3] = p.to().length;
        for (int road = 0; road < p.to().length; road++) {
            row[4 + road] = p.to()[road];
            row[7 + road] = p.is("turn") ? p.by()[road] : NONE;
        }
        return row[what];
    }

    public long pays(int place, int step) {
        return is(place, "end") && in(step, 0, 10) ? worthOfEnd(place, step) : NOTHING;
    }

    private long worthOfEnd(int place, int step) {
        Place p = places.get(place);
        try {
            boolean so = p.test() == null || p.test().at(step, place, day()) == 1;
            long sum = p.sum().at(step, place, day());
            return so ? Math.max(-999, Math.min(999, sum)) : 0;
        } catch (Broken b) {
            return 0;
        }
    }

    public int paint(int place, int look) {
        if (!in(look, 0, 5)) {
            return no(-1);
        }
        if (!there(place)) {
            return no(-2);
        }
        if (!is(place, "fork")) {
            return no(-3);
        }
        int was = places.get(place).look();
        places = painted(places, 1 << place, look);
        return yes(was);
    }

    private static List<Place> painted(List<Place> all, int bits, int look) {
        List<Place> then = new ArrayList<>(all);
        for (int i = 0; i < all.size(); i++) {
            if ((bits >> i & 1) == 1) {
                then.set(i, all.get(i).painted(look));
            }
        }
        return then;
    }

    public int used() {
        return usedOf(places);
    }

    private static int usedOf(List<Place> all) {
        int bits = 0;
        for (Place p : all) {
            bits |= p.is("fork") ? 1 << p.look() : 0;
        }
        return bits;
    }

    private static int roadsOf(List<Place> all, int look) {
        return all.stream().filter(p -> p.is("fork") && p.look() == look).mapToInt(p -> p.to().length).max().orElse(0);
    }

    // ---- promises 11 to 14

    public int rule(int look, int zero, int one) {
        if (!in(look, 0, 5) || !in(zero, 0, 10) || !in(one, 0, 10) || zero + one > 10) {
            return no(-1);
        }
        List<List<Integer>> then = new ArrayList<>(rule);
        then.set(look, List.of(zero, one, 10 - zero - one));
        rule = then;
        return yes(0);
    }

    public int tenths(int look, int road) {
        return in(look, 0, 5) && in(road, 0, 2) ? rule.get(look).get(road) : NONE;
    }

    /** TENTHS of the ROADS of a PLACE from which he goes on. */
    private static int[] shares(Place p, List<List<Integer>> by) {
        if (p.is("turn")) {
            return p.by();
        }
        int[] all = new int[p.to().length];
        for (int road = 0; road < 3; road++) {
            all[Math.min(road, all.length - 1)] += p.is("fork") ? by.get(p.look()).get(road) : road == 0 ? 10 : 0;
        }
        return all;
    }

    private boolean over(int place, int step) {
        return !there(place) || is(place, "end") || step == day();
    }

    private long has(int place, int step) {
        return !there(place) ? terms.get(3) : is(place, "end") ? worthOfEnd(place, step) : terms.get(2);
    }

    private long worthFrom(int place, int step, List<Place> all, List<List<Integer>> by) {
        long[] chance = new long[16];
        chance[place] = ONE;
        long sum = 0;
        for (int now = step; now <= day(); now++) {
            long[] then = new long[16];
            for (int at = 0; at < 16; at++) {
                if (chance[at] == 0) {
                    continue;
                }
                if (over(at, now)) {
                    sum += chance[at] * has(at, now);
                    continue;
                }
                Place p = all.get(at);
                sum -= chance[at] * p.toll();
                int[] shares = shares(p, by);
                for (int road = 0; road < shares.length; road++) {
                    then[p.to()[road]] += chance[at] / 10 * shares[road];
                }
            }
            chance = then;
        }
        return sum;
    }

    public long worth() {
        return places.isEmpty() ? NOTHING : worthFrom(terms.get(0), 0, places, rule);
    }

    public long from(int place, int step) {
        return there(place) && in(step, 0, day()) ? worthFrom(place, step, places, rule) : NOTHING;
    }

    // ---- promises 15 to 19

    private static final class Best {
        long worth;
        long having = 0;
        long all = 0;
        List<List<Integer>> first = null;
    }

    /** Every row of TENTHS that is one of those in question, fewer ahead, or 10 on the first ROAD ahead. */
    private static List<List<Integer>> choices(int roads, boolean dice) {
        List<List<Integer>> rows = new ArrayList<>();
        for (int zero = 0; zero <= 10; zero++) {
            for (int one = 0; one + zero <= 10; one++) {
                int two = 10 - zero - one;
                boolean has = (one == 0 || roads > 1) && (two == 0 || roads > 2);
                boolean plain = zero == 10 || one == 10 || two == 10;
                if (has && dice) {
                    rows.add(List.of(zero, one, two));
                } else if (has && plain) {
                    rows.add(0, List.of(zero, one, two));
                }
            }
        }
        return rows;
    }

    private Best best(List<Place> all, int looks, boolean dice, List<List<Integer>> others) {
        Best best = new Best();
        List<List<List<Integer>>> rows = new ArrayList<>();
        for (int look = 0; look < 6; look++) {
            boolean open = (looks >> look & 1) == 1;
            rows.add(open ? choices(roadsOf(all, look), dice) : List.of(others.get(look)));
        }
        int[] at = new int[6];
        int turned = 0;
        while (turned >= 0) {
            List<List<Integer>> by = new ArrayList<>();
            for (int look = 0; look < 6; look++) {
                by.add(rows.get(look).get(at[look]));
            }
            long worth = worthFrom(terms.get(0), 0, all, by);
            best.all++;
            if (best.first == null || worth > best.worth) {
                best.first = by;
                best.worth = worth;
                best.having = 0;
            }
            best.having += worth == best.worth ? 1 : 0;
            turned = 5;
            while (turned >= 0 && at[turned] == rows.get(turned).size() - 1) {
                at[turned] = 0;
                turned--;
            }
            if (turned >= 0) {
                at[turned]++;
            }
        }
        return best;
    }

    private Best plainBest(List<Place> all) {
        return best(all, usedOf(all), false, new Twin().rule);
    }

    public long plain(int what) {
        if (!in(what, 0, 2) || places.isEmpty()) {
            return NOTHING;
        }
        Best b = plainBest(places);
        return what == 0 ? b.worth : what == 1 ? b.having : b.all;
    }

    public int road(int look) {
        return in(look, 0, 5) && !places.isEmpty() ? plainBest(places).first.get(look).indexOf(10) : NONE;
    }

    public int follow() {
        if (places.isEmpty()) {
            return no(-3);
        }
        rule = plainBest(places).first;
        return yes(0);
    }

    private Best dieBest(int looks) {
        int open = looks & used();
        long many = 1;
        for (int look = 0; look < 6; look++) {
            many *= (open >> look & 1) == 1 ? choices(roadsOf(places, look), true).size() : 1;
        }
        boolean none = places.isEmpty() || Integer.bitCount(open) > 3 || many > 5000;
        return none ? null : best(places, open, true, rule);
    }

    public long die(int looks, int what) {
        if (!in(looks, 0, 63) || !in(what, 0, 2)) {
            return NOTHING;
        }
        Best b = dieBest(looks);
        return b == null ? NOTHING : what == 0 ? b.worth : what == 1 ? b.having : b.all;
    }

    public int cast(int looks) {
        if (!in(looks, 0, 63)) {
            return no(-1);
        }
        Best b = dieBest(looks);
        if (b == null) {
            return no(-3);
        }
        rule = b.first;
        return yes(0);
    }

    // ---- promises 20 to 25

    public long power(int look, int k) {
        if (!in(look, 0, 5) || !in(k, 0, 10) || places.isEmpty()) {
            return NOTHING;
        }
        long[][] later = null;
        for (int step = day(); step >= 0; step--) {
            long[][] now = new long[16][11];
            for (int place = 0; place < 16; place++) {
                if (over(place, step)) {
                    now[place][0] = has(place, step) * ONE;
                    continue;
                }
                Place p = places.get(place);
                now[place][0] = -p.toll() * ONE;
                boolean open = p.is("fork") && p.look() == look;
                int[] shares = open ? new int[0] : shares(p, rule);
                for (int i = 0; i <= 10; i++) {
                    for (int road = 0; road < shares.length; road++) {
                        now[place][i] += later[p.to()[road]][i] / 10 * shares[road];
                    }
                    if (open) {
                        long[] zero = later[p.to()[0]];
                        long[] one = later[p.to()[Math.min(1, p.to().length - 1)]];
                        now[place][i] += one[i] + (i > 0 ? zero[i - 1] - one[i - 1] : 0);
                    }
                }
            }
            later = now;
        }
        return later[terms.get(0)][k];
    }

    public long pocket() {
        int used = used();
        if (places.isEmpty() || Integer.bitCount(used) > 3) {
            return NOTHING;
        }
        List<Integer> keys = new ArrayList<>();
        for (int key = 0; key < 12; key++) {
            if ((used >> key / 2 & 1) == 1) {
                keys.add(key);
            }
        }
        int[] chosen = new int[12];
        long[][] ended = new long[11][16];
        for (int i = 0; i < 11 * 16; i++) {
            ended[i / 16][i % 16] = i / 16 <= day() && over(i % 16, i / 16) ? has(i % 16, i / 16) : NOTHING;
        }
        long most = Long.MIN_VALUE;
        int turned = 0;
        while (turned >= 0) {
            most = Math.max(most, pocketWorth(chosen, ended));
            turned = keys.size() - 1;
            while (turned >= 0 && chosen[keys.get(turned)] == 2 * roadsOf(places, keys.get(turned) / 2) - 1) {
                chosen[keys.get(turned)] = 0;
                turned--;
            }
            if (turned >= 0) {
                chosen[keys.get(turned)]++;
            }
        }
        return most;
    }

    private long pocketWorth(int[] chosen, long[][] ended) {
        long[] chance = new long[32];
        chance[terms.get(0)] = ONE;
        long sum = 0;
        for (int step = 0; step <= day(); step++) {
            long[] then = new long[32];
            for (int spot = 0; spot < 32; spot++) {
                int place = spot % 16;
                int pocket = spot / 16;
                if (chance[spot] == 0) {
                    continue;
                }
                if (ended[step][place] != NOTHING) {
                    sum += chance[spot] * ended[step][place];
                    continue;
                }
                Place p = places.get(place);
                sum -= chance[spot] * p.toll();
                if (p.is("fork")) {
                    int choice = chosen[p.look() * 2 + pocket];
                    then[p.to()[Math.min(choice / 2, p.to().length - 1)] + choice % 2 * 16] += chance[spot];
                    continue;
                }
                int[] shares = shares(p, rule);
                for (int road = 0; road < shares.length; road++) {
                    then[p.to()[road] + pocket * 16] += chance[spot] / 10 * shares[road];
                }
            }
            chance = then;
        }
        return sum;
    }

    /** KNOWING, of each PLACE at a STEP. */
    private long[] known(int step) {
        long[] later = step < day() ? known(step + 1) : null;
        long[] now = new long[16];
        for (int place = 0; place < 16; place++) {
            if (over(place, step)) {
                now[place] = has(place, step) * ONE;
                continue;
            }
            Place p = places.get(place);
            if (p.is("fork")) {
                now[place] = Arrays.stream(p.to()).mapToLong(to -> later[to]).max().orElseThrow();
                continue;
            }
            int[] shares = shares(p, rule);
            for (int road = 0; road < shares.length; road++) {
                now[place] += later[p.to()[road]] / 10 * shares[road];
            }
            now[place] -= p.toll() * ONE;
        }
        return now;
    }

    public long knowing() {
        return places.isEmpty() ? NOTHING : known(0)[terms.get(0)];
    }

    public int knows(int place, int step) {
        if (!is(place, "fork") || !in(step, 0, day() - 1)) {
            return NONE;
        }
        long[] later = known(step + 1);
        int[] to = places.get(place).to();
        long most = Arrays.stream(to).mapToLong(t -> later[t]).max().orElseThrow();
        int road = 0;
        while (later[to[road]] < most) {
            road++;
        }
        return road;
    }

    /** WORTH by SIGNS, as bits of PLACES; null if there are none to be painted. */
    private Map<Integer, Long> signWorths(int look) {
        int forks = 0;
        for (int i = 0; i < places.size(); i++) {
            forks |= is(i, "fork") && places.get(i).look() == look ? 1 << i : 0;
        }
        if (!in(look, 0, 4) || forks == 0 || Integer.bitCount(forks) > 6 || (used() >> 5 & 1) == 1) {
            return null;
        }
        Map<Integer, Long> all = new HashMap<>();
        for (int bits = 0; bits < 1 << 16; bits++) {
            if ((bits & ~forks) == 0) {
                all.put(bits, plainBest(painted(places, bits, 5)).worth);
            }
        }
        return all;
    }

    public int signs(int look, long least, int what) {
        Map<Integer, Long> all = in(what, 0, 1) ? signWorths(look) : null;
        if (all == null) {
            return NONE;
        }
        int found = NONE;
        for (int bits = (1 << 16) - 1; bits >= 0; bits--) {
            boolean enough = all.containsKey(bits) && all.get(bits) >= least;
            if (enough && (found == NONE || Integer.bitCount(bits) <= Integer.bitCount(found))) {
                found = bits;
            }
        }
        return found == NONE || what == 1 ? found : Integer.bitCount(found);
    }

    public long signed(int look) {
        Map<Integer, Long> all = signWorths(look);
        return all == null ? NOTHING : all.values().stream().mapToLong(w -> w).max().orElseThrow();
    }

    // ---- promises 26 to 30

    /** How often, from START on, he is at a PLACE; or how often a RIDE ends there, LATE, LOST. */
    private long often(int wanted, boolean ending) {
        long[] later = null;
        for (int step = day(); step >= 0; step--) {
            long[] now = new long[16];
            for (int place = 0; place < 16; place++) {
                boolean over = over(place, step);
                int end = !there(place) ? 17 : is(place, "end") ? place : 16;
                boolean counts = ending ? over && end == wanted : place == wanted;
                now[place] = counts ? ONE : 0;
                if (!over) {
                    Place p = places.get(place);
                    int[] shares = shares(p, rule);
                    for (int road = 0; road < shares.length; road++) {
                        now[place] += later[p.to()[road]] / 10 * shares[road];
                    }
                }
            }
            later = now;
        }
        return later[terms.get(0)];
    }

    public long visits(int place) {
        return there(place) ? often(place, false) : NOTHING;
    }

    public long ends(int place) {
        boolean can = is(place, "end") || !places.isEmpty() && in(place, 16, 17);
        return can ? often(place, true) : NOTHING;
    }

    private boolean alike(int place, int fork) {
        return is(place, "fork") && places.get(place).look() == places.get(fork).look();
    }

    private long oftenAlike(int fork) {
        long sum = 0;
        for (int place = 0; place < places.size(); place++) {
            sum += alike(place, fork) ? often(place, false) : 0;
        }
        return sum;
    }

    public int belief(int place, int school) {
        if (!is(place, "fork") || !in(school, 0, 1) || oftenAlike(place) == 0) {
            return NONE;
        }
        if (school == 0) {
            return cut(BigInteger.valueOf(often(place, false)), BigInteger.valueOf(oftenAlike(place)));
        }
        BigInteger twelve = BigInteger.valueOf(39916800);
        Map<List<Integer>, Long> rides = new HashMap<>();
        rides.put(List.of(terms.get(0), 0, 0), ONE);
        BigInteger part = BigInteger.ZERO;
        BigInteger all = BigInteger.ZERO;
        for (int step = 0; step <= day(); step++) {
            Map<List<Integer>, Long> then = new HashMap<>();
            for (Map.Entry<List<Integer>, Long> e : rides.entrySet()) {
                int at = e.getKey().get(0);
                int mine = e.getKey().get(1) + (at == place ? 1 : 0);
                int any = e.getKey().get(2) + (alike(at, place) ? 1 : 0);
                if (!over(at, step)) {
                    int[] shares = shares(places.get(at), rule);
                    for (int road = 0; road < shares.length; road++) {
                        long chance = e.getValue() / 10 * shares[road];
                        then.merge(List.of(places.get(at).to()[road], mine, any), chance, Long::sum);
                    }
                } else if (any > 0) {
                    BigInteger chance = BigInteger.valueOf(e.getValue());
                    all = all.add(chance.multiply(twelve));
                    part = part.add(chance.multiply(BigInteger.valueOf(mine)).multiply(twelve).divide(BigInteger.valueOf(any)));
                }
            }
            rides = then;
        }
        return cut(part, all);
    }

    private static int cut(BigInteger part, BigInteger all) {
        return part.multiply(BigInteger.valueOf(1_000_000)).divide(all).intValueExact();
    }

    public long bet(int place, int price) {
        boolean can = is(place, "fork") && in(price, 0, 100);
        return can ? 100 * often(place, false) - price * oftenAlike(place) : NOTHING;
    }

    public int price(int place) {
        int greatest = NONE;
        for (int price = 0; price <= 100 && is(place, "fork"); price++) {
            greatest = bet(place, price) >= 0 ? price : greatest;
        }
        return greatest;
    }

    // ---- promises 31 to 36

    public int ride(int seed) {
        if (!in(seed, 0, 1_000_000)) {
            return no(-1);
        }
        if (places.isEmpty()) {
            return no(-3);
        }
        List<Integer> went = new ArrayList<>(List.of(terms.get(0)));
        long s = seed;
        long tolls = 0;
        while (!over(went.get(went.size() - 1), went.size() - 1)) {
            Place p = places.get(went.get(went.size() - 1));
            tolls += p.toll();
            int road = 0;
            if (!p.is("inn")) {
                s = (s * 1103 + 12345) % 1000003;
                int[] shares = shares(p, rule);
                for (int upTo = shares[0]; s % 10 >= upTo; upTo += shares[road]) {
                    road++;
                }
            }
            went.add(p.to()[road]);
        }
        way = went;
        gained = has(went.get(went.size() - 1), went.size() - 1) - tolls;
        return yes(went.size() - 1);
    }

    public long rode(int step) {
        if (step == NONE && !way.isEmpty()) {
            return gained;
        }
        return in(step, 0, way.size() - 1) ? way.get(step) : NOTHING;
    }

    public int image(int k) {
        if (!in(k, 0, 1)) {
            return no(-1);
        }
        images.put(k, new Kept(places, terms, rule));
        return yes(0);
    }

    public int back(int k) {
        if (!in(k, 0, 1)) {
            return no(-1);
        }
        Kept kept = images.get(k);
        if (kept == null) {
            return no(-2);
        }
        places = kept.places();
        terms = kept.terms();
        rule = kept.rule();
        return yes(0);
    }

    public int count(int what) {
        if (what == 0) {
            return places.size();
        }
        if (what == 1) {
            return (int) places.stream().filter(p -> p.is("fork")).count();
        }
        if (what == 2) {
            return Integer.bitCount(used());
        }
        if (what == 3) {
            return tape.size();
        }
        if (in(what, 4, 7)) {
            return refused.getOrDefault(new int[] {-1, -2, -3, -6}[what - 4], 0);
        }
        return in(what, 8, 11) ? terms.get(what - 8) : -1000;
    }

    public int status() {
        return latest;
    }

    // ---- the language

    private static final class Parser {
        private final List<Token> tokens = new ArrayList<>();
        private int next = 0;
        private int parts = 0;

        Parser(String text) {
            java.util.regex.Matcher m = java.util.regex.Pattern.compile("[a-z]+|[0-9]+|[^ ]", java.util.regex.Pattern.DOTALL)
                    .matcher(text);
            while (m.find()) {
                tokens.add(new Token(m.group(), m.start()));
            }
            tokens.add(new Token("", text.length()));
        }

        private Token peek() {
            return tokens.get(next);
        }

        private Fault here() {
            return new Fault(peek().at());
        }

        private boolean take(String word) {
            boolean is = peek().is(word);
            next += is ? 1 : 0;
            return is;
        }

        private void must(String word) throws Fault {
            if (!take(word)) {
                throw here();
            }
        }

        private int number(int least, int most) throws Fault {
            Token t = peek();
            BigInteger n = t.isNumber() ? new BigInteger(t.text()) : BigInteger.valueOf(-1);
            if (n.compareTo(BigInteger.valueOf(least)) < 0 || n.compareTo(BigInteger.valueOf(most)) > 0) {
                throw here();
            }
            next++;
            return n.intValueExact();
        }

        List<Place> country() throws Fault {
            List<Place> all = new ArrayList<>();
            do {
                if (all.size() == 16) {
                    throw here();
                }
                all.add(place());
            } while (take(";"));
            must("");
            return all;
        }

        private Place place() throws Fault {
            if (take("fork")) {
                int look = number(0, 5);
                must("to");
                List<Integer> to = new ArrayList<>();
                do {
                    to.add(number(0, 15));
                } while (to.size() < 3 && take(","));
                return new Place("fork", look, 0, row(to), null, null, null);
            }
            if (take("turn")) {
                return turn();
            }
            if (take("inn")) {
                int toll = number(0, 99);
                must("to");
                return new Place("inn", 0, toll, new int[] {number(0, 15)}, null, null, null);
            }
            must("end");
            Told sum = sum(0);
            Told test = take("if") ? test(0) : null;
            return new Place("end", 0, 0, new int[0], null, sum, test);
        }

        private Place turn() throws Fault {
            List<Integer> to = new ArrayList<>();
            List<Integer> by = new ArrayList<>();
            int together = 0;
            do {
                to.add(number(0, 15));
                must("by");
                by.add(number(1, 10 - together));
                together += by.get(by.size() - 1);
            } while (to.size() < 3 && take(","));
            if (together < 10) {
                throw here();
            }
            return new Place("turn", 0, 0, row(to), row(by), null, null);
        }

        private static int[] row(List<Integer> list) {
            return list.stream().mapToInt(i -> i).toArray();
        }

        private Told test(int deep) throws Fault {
            Told left = both(deep);
            while (take("or")) {
                Told a = left;
                Told b = both(deep);
                left = (s, p, d) -> a.at(s, p, d) == 1 ? 1 : b.at(s, p, d);
            }
            return left;
        }

        private Told both(int deep) throws Fault {
            Told left = plain(deep);
            while (take("and")) {
                Told a = left;
                Told b = plain(deep);
                left = (s, p, d) -> a.at(s, p, d) == 0 ? 0 : b.at(s, p, d);
            }
            return left;
        }

        private Told plain(int deep) throws Fault {
            if (take("not")) {
                Told a = plain(deep);
                return (s, p, d) -> 1 - a.at(s, p, d);
            }
            if (deep < 8 && take("(")) {
                Told a = test(deep + 1);
                must(")");
                return a;
            }
            Told a = sum(deep);
            Token how = peek();
            if (!how.is("<") && !how.is(">") && !how.is("=")) {
                throw here();
            }
            next++;
            Told b = sum(deep);
            int want = how.is("<") ? -1 : how.is(">") ? 1 : 0;
            return (s, p, d) -> Long.compare(a.at(s, p, d), b.at(s, p, d)) == want ? 1 : 0;
        }

        private Told sum(int deep) throws Fault {
            Told left = term(deep);
            while (peek().is("+") || peek().is("-")) {
                int sign = take("+") ? 1 : -1;
                next += sign == 1 ? 0 : 1;
                Told a = left;
                Told b = term(deep);
                left = (s, p, d) -> whole(a.at(s, p, d) + sign * b.at(s, p, d));
            }
            return left;
        }

        private Told term(int deep) throws Fault {
            Told left = part(deep);
            while (peek().is("*") || peek().is("/")) {
                boolean times = take("*");
                next += times ? 0 : 1;
                Told a = left;
                Told b = part(deep);
                left = (s, p, d) -> {
                    long x = a.at(s, p, d);
                    long y = b.at(s, p, d);
                    if (!times && y == 0) {
                        throw new Broken();
                    }
                    return times ? whole(x * y) : x / y;
                };
            }
            return left;
        }

        private static long whole(long sum) throws Broken {
            if (!in(sum, -1_000_000_000, 1_000_000_000)) {
                throw new Broken();
            }
            return sum;
        }

        private Told part(int deep) throws Fault {
            if (deep < 8 && take("[")) {
                Told a = sum(deep + 1);
                must("]");
                return a;
            }
            Token t = peek();
            boolean word = t.is("step") || t.is("place") || t.is("day");
            if (parts == 50) {
                throw here();
            }
            int told = word ? 0 : number(0, 1000);
            next += word ? 1 : 0;
            parts++;
            return t.is("step") ? (s, p, d) -> s : t.is("place") ? (s, p, d) -> p : t.is("day") ? (s, p, d) -> d
                    : (s, p, d) -> told;
        }
    }
}
