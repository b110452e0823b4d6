import java.math.BigInteger;
import java.util.List;
import java.util.Random;

/** Countries made up by chance: all that can be asked of them, compared with the model. */
public final class ModelTest {
    private static final long NOTHING = ForgetfulRider.NOTHING;

    public static void main(String[] args) {
        int many = args.length > 0 ? Integer.parseInt(args[0]) : 700;
        for (int seed = 0; seed < many; seed++) {
            Random r = new Random(seed);
            int looks = 1 + r.nextInt(4);
            Model m = Model.any(r, 3 + r.nextInt(14), looks, 3 + r.nextInt(4));
            if (!m.fits()) {
                continue;
            }
            ForgetfulRider x = Told.in(m.text());
            for (int again = 0; again < 2; again++) {
                setTerms(r, m, x);
                setRule(r, m, x);
                String in = "seed " + seed + " " + m.text() + " day " + m.day + " ";
                askPlaces(in, m, x);
                askWorth(in, m, x);
                askPlain(in, m, x);
                askDie(in, r, m, x);
                askPower(in, r, m, x);
                askKnowing(in, m, x);
                askPocket(in, m, x);
                askSigns(in, r, m, x);
                askVisits(in, m, x);
                askBeliefs(in, m, x);
                askRide(in, r, m, x);
                paintOne(r, m, x);
            }
        }
        for (int seed = 0; seed < many; seed++) {
            pockets(new Random(seed), seed);
            manyLooks(new Random(seed), seed);
        }
        Told.finish("ModelTest");
    }

    /** Long ways through forks that look alike, with few turns: what a pebble is good for. */
    private static void pockets(Random r, int seed) {
        int looks = 1 + (seed % 8 == 0 ? 2 : seed % 2);
        Model m = crowded(r, 5 + r.nextInt(8), looks, seed % 4 == 0 ? 1 : 0);
        m.day = 3 + r.nextInt(8);
        ForgetfulRider x = Told.in(m.text());
        x.terms(1, m.day);
        Told.due("seed " + seed + " pocket in " + m.text() + " day " + m.day, x.pocket(), m.pocket(0, new int[6][2]));
    }

    private static void manyLooks(Random r, int seed) {
        Model m = crowded(r, 6 + r.nextInt(10), 2 + r.nextInt(5), r.nextInt(3));
        m.day = 4 + r.nextInt(4);
        ForgetfulRider x = Told.in(m.text());
        x.terms(1, m.day);
        askPlain("seed " + seed + " many looks in " + m.text() + " day " + m.day + " ", m, x);
    }

    /** Mostly forks; every end is worth another number, every step makes it less or more. */
    private static Model crowded(Random r, int size, int looks, int turns) {
        Model m = new Model();
        for (int i = 0; i < size; i++) {
            Model.Place p = new Model.Place();
            int dice = r.nextInt(10);
            p.kind = dice < 3 ? Model.END : i > 0 && turns > 0 && dice == 9 ? Model.TURN : Model.FORK;
            turns -= p.kind == Model.TURN ? 1 : 0;
            p.roads = new int[p.kind == Model.FORK ? 1 + r.nextInt(3) : p.kind == Model.TURN ? 2 : 0];
            p.tenths = new int[] {4, 6};
            for (int k = 0; k < p.roads.length; k++) {
                p.roads[k] = r.nextInt(size);
            }
            p.look = r.nextInt(looks);
            p.sum = new Model.Two(new Model.Number(r.nextInt(400)), r.nextBoolean() ? "+" : "-",
                    new Model.Two(new Model.Word("step"), "*", new Model.Number(r.nextInt(30))));
            m.places.add(p);
        }
        return m;
    }

    private static void setTerms(Random r, Model m, ForgetfulRider x) {
        int start = r.nextInt(6) == 0 ? r.nextInt(16) : r.nextInt(m.places.size());
        int day = r.nextInt(8) == 0 ? 7 + r.nextInt(4) : 1 + r.nextInt(5);
        int late = r.nextInt(1999) - 999;
        int lost = r.nextInt(1999) - 999;
        Told.due("terms(0)", x.terms(0, start), m.start);
        Told.due("terms(1)", x.terms(1, day), m.day);
        Told.due("terms(2)", x.terms(2, late), m.late);
        Told.due("terms(3)", x.terms(3, lost), m.lost);
        m.start = start;
        m.day = day;
        m.late = late;
        m.lost = lost;
    }

    private static void setRule(Random r, Model m, ForgetfulRider x) {
        for (int look = 0; look < 6; look++) {
            int zero = r.nextInt(11);
            int one = r.nextInt(11 - zero);
            Told.due("rule", x.rule(look, zero, one), 0);
            m.rule[look] = new int[] {zero, one, 10 - zero - one};
        }
    }

    private static void paintOne(Random r, Model m, ForgetfulRider x) {
        int place = r.nextInt(m.places.size());
        int look = r.nextInt(6);
        Model.Place p = m.places.get(place);
        boolean fork = p.kind == Model.FORK;
        Told.due("paint", x.paint(place, look), fork ? p.look : -3);
        Told.due("status", x.status(), fork ? 0 : -3);
        if (fork) {
            p.look = look;
        }
    }

    private static void askPlaces(String in, Model m, ForgetfulRider x) {
        int forks = 0;
        for (int i = 0; i < 17; i++) {
            if (i >= m.places.size()) {
                for (int what = 0; what < 10; what++) {
                    Told.due(in + "of not there", x.of(i, what), -1);
                }
                Told.due(in + "pays not there", x.pays(i, 0), NOTHING);
                continue;
            }
            Model.Place p = m.places.get(i);
            forks += p.kind == Model.FORK ? 1 : 0;
            Told.due(in + "of " + i + " 0", x.of(i, 0), p.kind);
            Told.due(in + "of " + i + " 1", x.of(i, 1), p.kind == Model.FORK ? p.look : -1);
            Told.due(in + "of " + i + " 2", x.of(i, 2), p.kind == Model.INN ? p.toll : -1);
            Told.due(in + "of " + i + " 3", x.of(i, 3), p.roads.length);
            for (int k = 0; k < 3; k++) {
                boolean has = k < p.roads.length;
                Told.due(in + "road " + k, x.of(i, 4 + k), has ? p.roads[k] : -1);
                Told.due(in + "tenths " + k, x.of(i, 7 + k), has && p.kind == Model.TURN ? p.tenths[k] : -1);
            }
            for (int step = -1; step < 12; step++) {
                boolean pays = p.kind == Model.END && step >= 0 && step <= 10;
                Told.due(in + "pays " + i + " " + step, x.pays(i, step), pays ? m.pays(i, step) : NOTHING);
            }
        }
        Told.due(in + "used", x.used(), m.used());
        Told.due(in + "count 0", x.count(0), m.places.size());
        Told.due(in + "count 1", x.count(1), forks);
        Told.due(in + "count 2", x.count(2), Integer.bitCount(m.used()));
    }

    private static void askWorth(String in, Model m, ForgetfulRider x) {
        Told.due(in + "worth", x.worth(), m.worth(m.start, 0, m.rule));
        for (int place = 0; place < 16; place++) {
            for (int step = 0; step <= 11; step += 1 + place % 3) {
                boolean can = m.isThere(place) && step <= m.day;
                Told.due(in + "from " + place + " " + step, x.from(place, step),
                        can ? m.worth(place, step, m.rule) : NOTHING);
            }
        }
    }

    private static void askPlain(String in, Model m, ForgetfulRider x) {
        if (m.day > 6) {
            return;
        }
        m.plain();
        Told.due(in + "plain 0", x.plain(0), m.best);
        Told.due(in + "plain 1", x.plain(1), m.having);
        Told.due(in + "plain 2", x.plain(2), m.rules);
        for (int look = 0; look < 6; look++) {
            int road = m.first[look][0] == 10 ? 0 : m.first[look][1] == 10 ? 1 : 2;
            Told.due(in + "road " + look, x.road(look), road);
        }
        x.image(0);
        Told.due(in + "follow", x.follow(), 0);
        askRule(in + "follow ", m.first, x);
        Told.due(in + "worth of plain", x.worth(), m.best);
        x.back(0);
        askRule(in + "back ", m.rule, x);
    }

    private static void askRule(String in, int[][] rule, ForgetfulRider x) {
        for (int look = 0; look < 6; look++) {
            for (int road = 0; road < 3; road++) {
                Told.due(in + "tenths " + look + " " + road, x.tenths(look, road), rule[look][road]);
            }
        }
    }

    private static void askDie(String in, Random r, Model m, ForgetfulRider x) {
        int looks = r.nextInt(64);
        boolean none = Integer.bitCount(looks & m.used()) > 3 || m.dieRules(looks) > 5000;
        if (none) {
            Told.due(in + "die none", x.die(looks, 2), NOTHING);
            Told.due(in + "cast none", x.cast(looks), -3);
            return;
        }
        Told.due(in + "die 2", x.die(looks, 2), m.dieRules(looks));
        if (m.day > (m.dieRules(looks) > 800 ? 3 : 4)) {
            return;
        }
        m.die(looks);
        Told.due(in + "die 0 " + looks, x.die(looks, 0), m.best);
        Told.due(in + "die 1 " + looks, x.die(looks, 1), m.having);
        x.image(1);
        Told.due(in + "cast", x.cast(looks), 0);
        askRule(in + "cast " + looks + " ", m.first, x);
        Told.due(in + "worth of cast", x.worth(), m.best);
        x.back(1);
    }

    private static void askPower(String in, Random r, Model m, ForgetfulRider x) {
        int look = r.nextInt(6);
        for (int p = -2; p < 10; p++) {
            BigInteger at = BigInteger.valueOf(p);
            BigInteger sum = BigInteger.ZERO;
            for (int k = 10; k >= 0; k--) {
                sum = sum.multiply(at).add(BigInteger.valueOf(x.power(look, k)));
            }
            BigInteger want = m.worthAt(m.start, 0, look, at).multiply(BigInteger.TEN.pow(10 - m.day));
            Told.due(in + "power " + look + " at " + p, sum.equals(want) ? 1 : 0, 1);
        }
    }

    private static void askKnowing(String in, Model m, ForgetfulRider x) {
        if (m.day > 6) {
            return;
        }
        Told.due(in + "knowing", x.knowing(), m.knowing(m.start, 0));
        for (int place = 0; place < 16; place++) {
            for (int step = 0; step <= m.day; step++) {
                int want = -1;
                if (m.isThere(place) && m.places.get(place).kind == Model.FORK && step < m.day) {
                    int[] roads = m.places.get(place).roads;
                    want = 0;
                    for (int i = 1; i < roads.length; i++) {
                        want = m.knowing(roads[i], step + 1) > m.knowing(roads[want], step + 1) ? i : want;
                    }
                }
                Told.due(in + "knows " + place + " " + step, x.knows(place, step), want);
            }
        }
    }

    private static void askPocket(String in, Model m, ForgetfulRider x) {
        int used = Integer.bitCount(m.used());
        if (used > 3) {
            Told.due(in + "pocket", x.pocket(), NOTHING);
        } else if (m.day <= 7 - used) {
            Told.due(in + "pocket", x.pocket(), m.pocket(0, new int[6][2]));
        }
    }

    private static void askSigns(String in, Random r, Model m, ForgetfulRider x) {
        int look = r.nextInt(3);
        List<Integer> forks = m.forksOf(look);
        if (forks.isEmpty() || forks.size() > 6 || m.roadsOf(5) > 0) {
            Told.due(in + "signs", x.signs(look, -1_000_000_000_000_000L, 0), -1);
            Told.due(in + "signed", x.signed(look), NOTHING);
            return;
        }
        if (m.day > 4) {
            return;
        }
        long[] worth = new long[1 << forks.size()];
        int[] places = new int[worth.length];
        long most = Long.MIN_VALUE;
        for (int i = 0; i < worth.length; i++) {
            for (int j = 0; j < forks.size(); j++) {
                places[i] |= (i >> j & 1) << forks.get(j);
            }
            worth[i] = m.withSigns(look, places[i]);
            most = Math.max(most, worth[i]);
        }
        Told.due(in + "signed " + look, x.signed(look), most);
        Told.due(in + "signs too much", x.signs(look, most + 1, 0), -1);
        for (long least : new long[] {most, most - 1, worth[0], worth[0] + 1, Long.MIN_VALUE, Long.MAX_VALUE}) {
            int best = -1;
            for (int i = 0; i < worth.length; i++) {
                boolean fewer = best < 0 || Integer.bitCount(i) < Integer.bitCount(best)
                        || Integer.bitCount(i) == Integer.bitCount(best) && places[i] < places[best];
                best = worth[i] >= least && fewer ? i : best;
            }
            Told.due(in + "signs 0 " + least, x.signs(look, least, 0), best < 0 ? -1 : Integer.bitCount(best));
            Told.due(in + "signs 1 " + least, x.signs(look, least, 1), best < 0 ? -1 : places[best]);
        }
    }

    private static void askVisits(String in, Model m, ForgetfulRider x) {
        long[] visits = new long[16];
        long[] ends = new long[18];
        m.allRides((chance, way) -> {
            for (int place : way) {
                visits[place] += chance;
            }
            int last = way.get(way.size() - 1);
            ends[!m.isThere(last) ? 17 : m.places.get(last).kind == Model.END ? last : 16] += chance;
        });
        for (int place = -1; place < 19; place++) {
            boolean there = place >= 0 && m.isThere(place);
            Told.due(in + "visits " + place, x.visits(place), there ? visits[place] : NOTHING);
            boolean end = there && m.places.get(place).kind == Model.END || place == 16 || place == 17;
            Told.due(in + "ends " + place, x.ends(place), end ? ends[place] : NOTHING);
        }
    }

    private static void askBeliefs(String in, Model m, ForgetfulRider x) {
        BigInteger whole = BigInteger.valueOf(27720);
        for (int f = 0; f < 16; f++) {
            if (!m.isThere(f) || m.places.get(f).kind != Model.FORK) {
                Told.due(in + "belief of no fork", x.belief(f, 0), -1);
                Told.due(in + "belief of no fork", x.belief(f, 1), -1);
                Told.due(in + "bet on no fork", x.bet(f, 50), NOTHING);
                Told.due(in + "price of no fork", x.price(f), -1);
                continue;
            }
            int fork = f;
            List<Integer> alike = m.forksOf(m.places.get(f).look);
            long[] sums = new long[3];
            BigInteger[] second = {BigInteger.ZERO};
            m.allRides((chance, way) -> {
                long mine = 0;
                long all = 0;
                for (int place : way) {
                    mine += place == fork ? 1 : 0;
                    all += alike.contains(place) ? 1 : 0;
                }
                sums[0] += chance * mine;
                sums[1] += chance * all;
                if (all > 0) {
                    sums[2] += chance;
                    second[0] = second[0].add(BigInteger.valueOf(chance).multiply(BigInteger.valueOf(mine))
                            .multiply(whole).divide(BigInteger.valueOf(all)));
                }
            });
            BigInteger million = BigInteger.valueOf(1_000_000);
            boolean never = sums[1] == 0;
            Told.due(in + "belief 0 of " + f, x.belief(f, 0), never ? -1 : BigInteger.valueOf(sums[0])
                    .multiply(million).divide(BigInteger.valueOf(sums[1])).longValue());
            Told.due(in + "belief 1 of " + f, x.belief(f, 1), never ? -1 : second[0].multiply(million)
                    .divide(whole.multiply(BigInteger.valueOf(sums[2]))).longValue());
            int greatest = -1;
            for (int price = -1; price <= 101; price++) {
                boolean can = price >= 0 && price <= 100;
                long gain = 100 * sums[0] - price * sums[1];
                greatest = can && gain >= 0 ? price : greatest;
                Told.due(in + "bet on " + f + " at " + price, x.bet(f, price), can ? gain : NOTHING);
            }
            Told.due(in + "price " + f, x.price(f), greatest);
        }
    }

    private static void askRide(String in, Random r, Model m, ForgetfulRider x) {
        int seed = r.nextInt(1_000_001);
        long s = seed;
        int place = m.start;
        int step = 0;
        long tolls = 0;
        int[] way = new int[11];
        way[0] = place;
        while (m.over(place, step) == null) {
            Model.Place p = m.places.get(place);
            int road = 0;
            if (p.kind != Model.INN) {
                s = (s * 1103 + 12345) % 1000003;
                int[] tenths = m.tenthsAt(p, m.rule);
                long upTo = tenths[0];
                while (s % 10 >= upTo) {
                    road++;
                    upTo += tenths[road];
                }
            }
            tolls += p.toll;
            place = p.roads[road];
            step++;
            way[step] = place;
        }
        Told.due(in + "ride " + seed, x.ride(seed), step);
        for (int i = 0; i <= 11; i++) {
            Told.due(in + "rode " + i, x.rode(i), i <= step ? way[i] : NOTHING);
        }
        Told.due(in + "rode worth", x.rode(-1), m.over(place, step) - tolls);
        Told.due(in + "rode -2", x.rode(-2), NOTHING);
    }
}
