/** One after the other, the promises of the document: ordinary inputs, edges, wrong inputs. */
public final class PromiseTest {
    private static final long NOTHING = ForgetfulRider.NOTHING;
    private static final int NONE = ForgetfulRider.NONE;
    private static final long UNIT = 10_000_000_000L;
    private static final int LEAST = Integer.MIN_VALUE;
    private static final int MOST = Integer.MAX_VALUE;

    /** He should leave at the second crossroads, and can't tell them apart. */
    private static final String ALIKE = "fork 0 to 1,2;fork 0 to 4,3;end 0;end 4;end 1";
    private static final String LONG_WAY = "turn 1 by 3,2 by 7;inn 5 to 3;fork 1 to 0;end 100 - step * 10";

    public static void main(String[] args) {
        due("NONE", NONE, -1);
        due("NOTHING", NOTHING, -1_000_000_000_000_000_000L);
        newObject();
        tape();
        country();
        terms();
        ofPlaces();
        pays();
        paint();
        rule();
        worth();
        from();
        plain();
        follow();
        die();
        dieLimits();
        cast();
        power();
        pocket();
        knowing();
        signs();
        signsLimits();
        visits();
        ends();
        belief();
        bets();
        rides();
        images();
        counts();
        status();
        Told.finish("PromiseTest");
    }

    private static void due(String call, long got, long want) {
        Told.due(call, got, want);
    }

    // Promise 1, and what each call answers without a country
    private static void newObject() {
        ForgetfulRider x = new ForgetfulRider();
        for (int what = 0; what < 12; what++) {
            due("new count " + what, x.count(what), what == 9 ? 10 : 0);
        }
        due("new fault", x.fault(), NONE);
        due("new status", x.status(), 0);
        due("new of", x.of(0, 0), NONE);
        due("new pays", x.pays(0, 0), NOTHING);
        due("new used", x.used(), 0);
        for (int look = 0; look < 6; look++) {
            due("new tenths", x.tenths(look, 0), 10);
            due("new tenths", x.tenths(look, 1), 0);
            due("new tenths", x.tenths(look, 2), 0);
            due("new road", x.road(look), NONE);
            due("new power", x.power(look, 0), NOTHING);
            due("new signs", x.signs(look, 0, 0), NONE);
            due("new signed", x.signed(look), NOTHING);
        }
        due("new worth", x.worth(), NOTHING);
        due("new from", x.from(0, 0), NOTHING);
        due("new pocket", x.pocket(), NOTHING);
        due("new knowing", x.knowing(), NOTHING);
        due("new knows", x.knows(0, 0), NONE);
        for (int what = 0; what < 3; what++) {
            due("new plain", x.plain(what), NOTHING);
            due("new die", x.die(0, what), NOTHING);
        }
        due("new visits", x.visits(0), NOTHING);
        due("new ends 0", x.ends(0), NOTHING);
        due("new ends 16", x.ends(16), NOTHING);
        due("new ends 17", x.ends(17), NOTHING);
        due("new belief", x.belief(0, 0), NONE);
        due("new bet", x.bet(0, 0), NOTHING);
        due("new price", x.price(0), NONE);
        due("new rode", x.rode(0), NOTHING);
        due("new rode", x.rode(-1), NOTHING);
        due("new follow", x.follow(), -3);
        due("new cast", x.cast(0), -3);
        due("new cast 64", x.cast(64), -1);
        due("new ride", x.ride(0), -3);
        due("new ride -1", x.ride(-1), -1);
        due("new paint", x.paint(0, 0), -2);
        due("new back", x.back(0), -2);
        due("new image", x.image(0), 0);
        due("new back to that", x.back(0), 0);
    }

    // Promises 2, 3
    private static void tape() {
        ForgetfulRider x = new ForgetfulRider();
        for (int i = 1; i <= 20; i++) {
            due("feed", x.feed(-1, 0, MOST, LEAST, 1), 20 * i);
        }
        due("feed over 400", x.feed(0, 0, 0, 0, 0), NONE);
        due("bytes stay", x.count(3), 400);
        due("end above", x.end(401), NONE);
        due("end below", x.end(-1), NONE);
        due("end least", x.end(LEAST), NONE);
        due("bytes stay", x.count(3), 400);
        due("end all", x.end(400), 400);
        due("end 381", x.end(381), 381);
        due("feed over by one", x.feed(0, 0, 0, 0, 0), NONE);
        due("end 380", x.end(380), 380);
        due("feed to the last", x.feed(0, 0, 0, 0, 0), 400);
        due("end 0", x.end(0), 0);
        due("end above 0", x.end(1), NONE);
        due("feed again", x.feed(0x656e6420, 0x39202020, 0x20202020, 0x20202020, 0x20202020), 20);
        due("country of a fed tape", x.country(), 1);
        due("its end", x.pays(0, 0), 9);
        due("tape is empty then", x.count(3), 0);
        due("feed and end are not refused", x.count(4), 0);
        due("status", x.status(), 0);
        Told.feed(x, "en");
        Told.feed(x, "d 3");
        Told.feed(x, "5");
        due("country in pieces", x.country(), 1);
        due("its end", x.pays(0, 0), 35);
    }

    // Promises 4, 5
    private static void country() {
        ForgetfulRider x = Told.in(ALIKE);
        due("paint", x.paint(1, 3), 0);
        x.rule(0, 2, 3);
        x.terms(2, 17);
        due("bad text", Told.read(x, "end 1;lake"), -6);
        due("tape is empty then, too", x.count(3), 0);
        due("fault", x.fault(), 6);
        due("the one before stays", x.count(0), 5);
        due("its paint, too", x.of(1, 1), 3);
        due("empty tape", x.country(), -6);
        due("fault of an empty tape", x.fault(), 0);
        due("blanks alone", Told.read(x, "    "), -6);
        due("fault of blanks", x.fault(), 4);
        due("status", x.status(), -6);
        due("good text", Told.read(x, ALIKE), 5);
        due("no fault", x.fault(), NONE);
        due("status", x.status(), 0);
        due("paint is gone", x.of(1, 1), 0);
        due("the rule stays", x.tenths(0, 1), 3);
        due("terms stay", x.count(10), 17);
    }

    // Promise 6
    private static void terms() {
        ForgetfulRider x = new ForgetfulRider();
        int[] first = {0, 10, 0, 0};
        int[] least = {0, 1, -999, -999};
        int[] most = {15, 10, 999, 999};
        for (int what = 0; what < 4; what++) {
            due("terms most", x.terms(what, most[what]), first[what]);
            due("terms least", x.terms(what, least[what]), most[what]);
            due("terms kept", x.count(8 + what), least[what]);
            due("terms below", x.terms(what, least[what] - 1), -1);
            due("status", x.status(), -1);
            due("terms above", x.terms(what, most[what] + 1), -1);
            due("terms far", x.terms(what, LEAST), -1);
            due("terms kept", x.count(8 + what), least[what]);
        }
        due("terms -1", x.terms(-1, 1), -1);
        due("terms 4", x.terms(4, 1), -1);
        due("count", x.count(4), 14);
        due("it was -999", x.terms(2, -1), -999);
        due("it was -1", x.terms(2, -2), -1);
        due("and that is not refused", x.status(), 0);
    }

    // Promise 7
    private static void ofPlaces() {
        ForgetfulRider x = Told.in("fork 4 to 7,15;turn 0 by 1,1 by 2,9 by 7;inn 99 to 12;end 5;fork 5 to 1");
        int[][] want = {
            {0, 4, NONE, 2, 7, 15, NONE, NONE, NONE, NONE},
            {1, NONE, NONE, 3, 0, 1, 9, 1, 2, 7},
            {2, NONE, 99, 1, 12, NONE, NONE, NONE, NONE, NONE},
            {3, NONE, NONE, 0, NONE, NONE, NONE, NONE, NONE, NONE},
            {0, 5, NONE, 1, 1, NONE, NONE, NONE, NONE, NONE}};
        for (int place = 0; place < 5; place++) {
            for (int what = 0; what < 10; what++) {
                due("of " + place + " " + what, x.of(place, what), want[place][what]);
            }
            due("of -1", x.of(place, -1), NONE);
            due("of 10", x.of(place, 10), NONE);
            due("of least", x.of(place, LEAST), NONE);
            due("of most", x.of(place, MOST), NONE);
        }
        due("of 5", x.of(5, 0), NONE);
        due("of -1", x.of(-1, 0), NONE);
        due("of most", x.of(MOST, 0), NONE);
    }

    // Promise 8
    private static void pays() {
        ForgetfulRider x = Told.in("inn 1 to 0;end step * 300 + day if step > 1");
        due("pays", x.pays(1, 2), 610);
        due("pays no", x.pays(1, 1), 0);
        due("pays most", x.pays(1, 10), 999);
        due("pays 0", x.pays(1, 0), 0);
        x.terms(1, 4);
        due("pays by another day", x.pays(1, 2), 604);
        due("pays behind the day", x.pays(1, 3), 904);
        due("pays -1", x.pays(1, -1), NOTHING);
        due("pays 11", x.pays(1, 11), NOTHING);
        due("pays no end", x.pays(0, 2), NOTHING);
        due("pays not there", x.pays(2, 2), NOTHING);
        due("pays -1", x.pays(-1, 2), NOTHING);
    }

    // Promises 9, 10
    private static void paint() {
        ForgetfulRider x = Told.in("fork 1 to 1;end 1;fork 1 to 0;turn 0 by 10;inn 1 to 0");
        due("used", x.used(), 2);
        due("paint", x.paint(0, 5), 1);
        due("used", x.used(), 34);
        due("paint the same", x.paint(0, 5), 5);
        due("paint", x.paint(2, 0), 1);
        due("used", x.used(), 33);
        due("look", x.of(2, 1), 0);
        due("paint end", x.paint(1, 0), -3);
        due("paint turn", x.paint(3, 0), -3);
        due("paint inn", x.paint(4, 0), -3);
        due("paint not there", x.paint(5, 0), -2);
        due("paint not there", x.paint(15, 0), -2);
        for (int place : new int[] {16, 17, -1, MOST, LEAST}) {
            due("paint no such place", x.paint(place, 0), -2);
            due("its status", x.status(), -2);
            due("look 6 comes ahead of that", x.paint(place, 6), -1);
        }
        due("paint look 6", x.paint(0, 6), -1);
        due("paint look -1", x.paint(0, -1), -1);
        due("paint look 6 not there", x.paint(7, 6), -1);
        due("paint look 6 no fork", x.paint(1, 6), -1);
        due("used stays", x.used(), 33);
        due("refused by -1", x.count(4), 9);
        due("refused by -2", x.count(5), 7);
        due("refused by -3", x.count(6), 3);
    }

    // Promises 11, 12
    private static void rule() {
        ForgetfulRider x = new ForgetfulRider();
        due("rule", x.rule(5, 2, 3), 0);
        due("tenths", x.tenths(5, 0), 2);
        due("tenths", x.tenths(5, 1), 3);
        due("tenths", x.tenths(5, 2), 5);
        due("rule 0 0", x.rule(0, 0, 0), 0);
        due("tenths", x.tenths(0, 2), 10);
        due("rule 0 10", x.rule(0, 0, 10), 0);
        due("tenths", x.tenths(0, 1), 10);
        due("rule 10 0", x.rule(0, 10, 0), 0);
        int[][] bad = {{-1, 1, 1}, {6, 1, 1}, {0, -1, 5}, {0, 5, -1}, {0, 11, 0}, {0, 0, 11}, {0, 10, 1},
            {0, 5, 6}, {0, MOST, 1}, {0, 1, MOST}, {0, MOST, MOST}, {0, LEAST, LEAST}, {LEAST, 1, 1}};
        for (int[] b : bad) {
            due("bad rule", x.rule(b[0], b[1], b[2]), -1);
            due("status", x.status(), -1);
        }
        due("refused", x.count(4), bad.length);
        due("tenths stay", x.tenths(0, 0), 10);
        due("tenths look", x.tenths(6, 0), NONE);
        due("tenths look", x.tenths(-1, 0), NONE);
        due("tenths road", x.tenths(0, 3), NONE);
        due("tenths road", x.tenths(0, -1), NONE);
    }

    // Promise 13
    private static void worth() {
        ForgetfulRider x = Told.in("fork 0 to 1,2;end 100;end 7 + step;fork 0 to 1,2,9");
        due("worth", x.worth(), 100 * UNIT);
        x.rule(0, 3, 0);
        due("tenths of no road go to the last", x.worth(), 356 * UNIT / 10);
        x.terms(0, 3);
        x.terms(3, -20);
        due("a road that is not there is lost", x.worth(), 300 * UNIT / 10 - 140 * UNIT / 10);
        x.terms(0, 1);
        due("start at an end", x.worth(), 100 * UNIT);
        x.terms(0, 2);
        due("start at an end, step 0", x.worth(), 7 * UNIT);
        x.terms(0, 15);
        due("start lost", x.worth(), -20 * UNIT);
        ForgetfulRider y = Told.in("inn 99 to 0");
        y.terms(2, -999);
        due("ten tolls and late", y.worth(), -1989 * UNIT);
        y.terms(1, 1);
        due("one toll and late", y.worth(), -1098 * UNIT);
        ForgetfulRider z = Told.in("turn 0 by 9,1 by 1;end 1");
        due("exactly", z.worth(), UNIT - 3486784401L);
        z.terms(2, 1);
        due("at last late", z.worth(), UNIT);
        ForgetfulRider end = Told.in("inn 5 to 1;end 50");
        end.terms(1, 1);
        due("an end at the day", end.worth(), 45 * UNIT);
        ForgetfulRider lost = Told.in("inn 5 to 9");
        lost.terms(1, 1);
        lost.terms(3, 3);
        lost.terms(2, 800);
        due("lost at the day", lost.worth(), -2 * UNIT);
    }

    // Promise 14
    private static void from() {
        ForgetfulRider x = Told.in(LONG_WAY);
        x.terms(1, 3);
        x.terms(2, -50);
        due("from the start", x.from(0, 0), -125 * UNIT / 10);
        due("from the inn", x.from(1, 1), 75 * UNIT);
        due("from the inn at the day", x.from(1, 3), -50 * UNIT);
        due("from the end", x.from(3, 3), 70 * UNIT);
        due("from the end at once", x.from(3, 0), 100 * UNIT);
        due("behind the day", x.from(3, 4), NOTHING);
        due("step -1", x.from(3, -1), NOTHING);
        due("not there", x.from(4, 0), NOTHING);
        due("not there", x.from(-1, 0), NOTHING);
        x.terms(0, 15);
        due("wherever he starts", x.from(1, 1), 75 * UNIT);
    }

    // Promises 15, 16
    private static void plain() {
        ForgetfulRider x = Told.in(ALIKE);
        due("plain 0", x.plain(0), UNIT);
        due("plain 1", x.plain(1), 1);
        due("plain 2", x.plain(2), 2);
        due("plain 3", x.plain(3), NOTHING);
        due("plain -1", x.plain(-1), NOTHING);
        due("road", x.road(0), 0);
        due("road of a look that is not used", x.road(3), 0);
        due("road 6", x.road(6), NONE);
        due("road -1", x.road(-1), NONE);
        ForgetfulRider y = Told.in("fork 2 to 1,2,3;end 1;end 9;end 9;fork 4 to 1;fork 2 to 1;fork 5 to 2,2");
        due("most", y.plain(0), 9 * UNIT);
        due("how many have it", y.plain(1), 4);
        due("how many there are", y.plain(2), 6);
        due("first", y.road(2), 1);
        due("first of a look not seen", y.road(5), 0);
        ForgetfulRider z = Told.in("fork 3 to 1,2;fork 0 to 4,3,5;fork 0 to 3,4;end 8;end 2;end 8");
        due("most", z.plain(0), 8 * UNIT);
        due("two roads lead to the first", z.plain(1), 3);
        due("of", z.plain(2), 6);
        due("first by look 0", z.road(0), 0);
        due("then by look 3", z.road(3), 1);
        ForgetfulRider end = Told.in("end 4");
        due("no fork", end.plain(0), 4 * UNIT);
        due("no fork", end.plain(1), 1);
        due("no fork", end.plain(2), 1);
        due("no fork", end.road(0), 0);
        ForgetfulRider all = Told.in("fork 0 to 1,1,1;fork 1 to 2,2,2;fork 2 to 3,3,3;fork 3 to 4,4,4;"
                + "fork 4 to 5,5,5;fork 5 to 6,6,6;end 1");
        due("all rules", all.plain(2), 729);
        due("all have it", all.plain(1), 729);
    }

    // Promise 17
    private static void follow() {
        ForgetfulRider x = Told.in("fork 2 to 1,2,3;end 1;end 9;end 9");
        x.rule(2, 1, 2);
        x.rule(0, 3, 3);
        due("follow", x.follow(), 0);
        due("its road", x.tenths(2, 1), 10);
        due("no other", x.tenths(2, 0), 0);
        due("looks that are not used", x.tenths(0, 0), 10);
        due("looks that are not used", x.tenths(0, 1), 0);
        due("worth", x.worth(), 9 * UNIT);
        due("status", x.status(), 0);
    }

    // Promise 18
    private static void die() {
        ForgetfulRider x = Told.in(ALIKE);
        due("die 0", x.die(1, 0), 133 * UNIT / 100);
        due("die 1", x.die(1, 1), 1);
        due("die 2", x.die(1, 2), 11);
        due("die 3", x.die(1, 3), NOTHING);
        due("die -1", x.die(1, -1), NOTHING);
        due("looks 64", x.die(64, 0), NOTHING);
        due("looks -1", x.die(-1, 0), NOTHING);
        due("looks 63: those that are used count", x.die(63, 0), 133 * UNIT / 100);
        x.rule(0, 5, 5);
        due("no look: as told", x.die(0, 0), 125 * UNIT / 100);
        due("no look: one rule", x.die(0, 2), 1);
        due("a look that is not used: as told", x.die(62, 0), 125 * UNIT / 100);
        due("the rule stays", x.tenths(0, 0), 5);
        x.paint(1, 2);
        x.rule(2, 0, 10);
        due("other looks as told", x.die(1, 0), 4 * UNIT);
        x.rule(2, 10, 0);
        due("other looks as told", x.die(1, 0), UNIT);
    }

    private static void dieLimits() {
        String three = "fork 0 to 9,9;fork 1 to 9,9;fork 2 to 9,9;fork 3 to 9,9";
        ForgetfulRider x = Told.in(three);
        due("three looks", x.die(7, 2), 1331);
        due("all have it", x.die(7, 1), 1331);
        due("four looks", x.die(15, 2), NOTHING);
        due("four looks, three used", x.die(0x37, 2), 1331);
        ForgetfulRider y = Told.in("fork 0 to 9,9,9;fork 1 to 9,9,9;fork 2 to 9,9;fork 3 to 9;fork 1 to 9");
        due("66", y.die(1, 2), 66);
        due("66 * 66", y.die(3, 2), 4356);
        due("66 * 66, all have it", y.die(3, 1), 4356);
        due("66 * 66 * 1", y.die(11, 2), 4356);
        due("66 * 66 * 11", y.die(7, 2), NOTHING);
        due("66 * 66 * 11", y.die(7, 0), NOTHING);
        due("66 * 11", y.die(6, 2), 726);
        due("66 * 11 * 1", y.die(14, 2), 726);
        due("1", y.die(8, 2), 1);
        due("cast of too many", y.cast(7), -3);
        due("cast of four looks", x.cast(15), -3);
        due("status", x.status(), -3);
    }

    // Promise 19
    private static void cast() {
        ForgetfulRider x = Told.in(ALIKE);
        x.rule(3, 1, 1);
        due("cast", x.cast(9), 0);
        due("tenths", x.tenths(0, 0), 7);
        due("tenths", x.tenths(0, 1), 3);
        due("tenths", x.tenths(0, 2), 0);
        due("a look that is not used stays", x.tenths(3, 2), 8);
        due("worth", x.worth(), 133 * UNIT / 100);
        due("cast 64", x.cast(64), -1);
        due("cast -1", x.cast(-1), -1);
        due("status", x.status(), -1);
        due("cast none", x.cast(0), 0);
        due("stays", x.tenths(0, 0), 7);
        ForgetfulRider y = Told.in("fork 1 to 1,1,1;end 5;fork 0 to 1,1;fork 4 to 1");
        due("all alike", y.die(0x13, 1), 726);
        due("cast the first: fewer ahead", y.cast(0x13), 0);
        int[][] want = {{0, 10, 0}, {0, 0, 10}, {10, 0, 0}, {10, 0, 0}, {10, 0, 0}};
        for (int look = 0; look < 5; look++) {
            for (int road = 0; road < 3; road++) {
                due("cast " + look + " " + road, y.tenths(look, road), want[look][road]);
            }
        }
    }

    // Promise 20
    private static void power() {
        ForgetfulRider x = Told.in(ALIKE);
        x.rule(0, 5, 1);
        long[] want = {0, 4 * UNIT, -3 * UNIT, 0, 0, 0, 0, 0, 0, 0, 0};
        for (int k = 0; k < 11; k++) {
            due("power " + k, x.power(0, k), want[k]);
        }
        due("power -1", x.power(0, -1), NOTHING);
        due("power 11", x.power(0, 11), NOTHING);
        due("power of look 6", x.power(6, 0), NOTHING);
        due("power of look -1", x.power(-1, 0), NOTHING);
        due("of a look that is not used", x.power(4, 0), x.worth());
        due("of a look that is not used", x.power(4, 1), 0);
        ForgetfulRider y = Told.in("fork 1 to 1,0,2;end 7");
        y.rule(1, 0, 0);
        y.terms(2, 1);
        long sign = 1;
        long choose = 1;
        for (int k = 0; k <= 10; k++) {
            // 7 - 6 times (1 - p) to the tenth
            due("power " + k, y.power(1, k), (k == 0 ? 7 : 0) * UNIT - 6 * sign * choose * UNIT);
            sign = -sign;
            choose = choose * (10 - k) / (k + 1);
        }
        ForgetfulRider one = Told.in("fork 0 to 1;end 3");
        due("a fork with one road", one.power(0, 0), 3 * UNIT);
        due("a fork with one road", one.power(0, 1), 0);
    }

    // Promise 21
    private static void pocket() {
        ForgetfulRider x = Told.in(ALIKE);
        due("pocket", x.pocket(), 4 * UNIT);
        ForgetfulRider y = Told.in("fork 0 to 1,7;fork 0 to 2,7;fork 0 to 7,3;end 9");
        y.terms(3, 1);
        due("on, on, off: a pebble counts to two", y.pocket(), UNIT);
        ForgetfulRider z = Told.in("fork 0 to 1,7;fork 0 to 2,7;fork 0 to 7,3,4;end 9;end 20");
        due("a third road", z.pocket(), 0);
        ForgetfulRider four = Told.in("fork 0 to 1;fork 1 to 2;fork 2 to 3;fork 3 to 4;end 1");
        due("four looks", four.pocket(), NOTHING);
        four.paint(3, 2);
        due("three looks", four.pocket(), UNIT);
        due("no fork", Told.in("end 3").pocket(), 3 * UNIT);
        // on, on, off can't be kept in mind, on whichever of two ways it lies
        String tooLong = "fork 0 to 4,9;fork 0 to 5,9;fork 0 to 9,6;end 9;end 0";
        due("behind inns", Told.in("turn 1 by 5,2 by 5;inn 0 to 3;inn 0 to 7;" + tooLong).pocket(), 0);
        due("behind inns", Told.in("turn 1 by 5,2 by 5;inn 0 to 7;inn 0 to 3;" + tooLong).pocket(), 0);
        due("behind forks", Told.in("turn 1 by 5,2 by 5;fork 1 to 3;fork 1 to 7;" + tooLong).pocket(), 0);
        due("behind forks", Told.in("turn 1 by 5,2 by 5;fork 1 to 7;fork 1 to 3;" + tooLong).pocket(), 0);
    }

    // Promises 22, 23
    private static void knowing() {
        ForgetfulRider x = Told.in(ALIKE);
        due("knowing", x.knowing(), 4 * UNIT);
        due("knows 0", x.knows(0, 0), 0);
        due("knows 1", x.knows(1, 1), 1);
        due("at the last step below day", x.knows(1, 9), 1);
        due("at the day", x.knows(1, 10), NONE);
        due("at -1", x.knows(1, -1), NONE);
        due("no fork", x.knows(2, 0), NONE);
        due("not there", x.knows(5, 0), NONE);
        due("not there", x.knows(-1, 0), NONE);
        due("at step 9 both ends come too late", x.knows(0, 9), 0);
        x.terms(2, -1);
        due("at step 9 the end is better than late", x.knows(0, 9), 1);
        ForgetfulRider y = Told.in("fork 0 to 0,1,2;end step if step > 4;end step if step > 4");
        due("waits", y.knows(0, 3), 0);
        due("the lowest that is best", y.knows(0, 9), 1);
        due("knowing", y.knowing(), 10 * UNIT);
        y.terms(1, 4);
        due("all alike", y.knows(0, 3), 0);
    }

    // Promises 24, 25
    private static void signs() {
        ForgetfulRider x = Told.in(ALIKE);
        due("fewest", x.signs(0, 4 * UNIT, 0), 1);
        due("lowest", x.signs(0, 4 * UNIT, 1), 1);
        due("none needed", x.signs(0, UNIT, 0), 0);
        due("none needed", x.signs(0, UNIT, 1), 0);
        due("one above", x.signs(0, UNIT + 1, 0), 1);
        due("not to be had", x.signs(0, 4 * UNIT + 1, 0), NONE);
        due("least of all", x.signs(0, Long.MIN_VALUE, 0), 0);
        due("most of all", x.signs(0, Long.MAX_VALUE, 1), NONE);
        due("what 2", x.signs(0, 0, 2), NONE);
        due("what -1", x.signs(0, 0, -1), NONE);
        due("look 5", x.signs(5, 0, 0), NONE);
        due("look -1", x.signs(-1, 0, 0), NONE);
        due("look 6", x.signs(6, 0, 0), NONE);
        due("no fork of it", x.signs(1, 0, 0), NONE);
        due("signed", x.signed(0), 4 * UNIT);
        due("signed 5", x.signed(5), NOTHING);
        due("signed 1", x.signed(1), NOTHING);
        due("signed -1", x.signed(-1), NOTHING);
        due("looks stay", x.used(), 1);
        due("rule stays", x.tenths(0, 0), 10);
        ForgetfulRider y = Told.in("fork 0 to 7,1;fork 0 to 2,7;fork 0 to 3,7;fork 0 to 7,4;end 9");
        due("two of four", y.signs(0, 9 * UNIT, 0), 2);
        due("the lowest such", y.signs(0, 9 * UNIT, 1), 6);
        y.terms(0, 1);
        due("one is enough", y.signs(0, 9 * UNIT, 0), 1);
        due("the lowest such", y.signs(0, 9 * UNIT, 1), 8);
    }

    private static void signsLimits() {
        ForgetfulRider x = Told.in(ALIKE);
        x.paint(1, 5);
        due("look 5 is used", x.signs(0, 0, 0), NONE);
        due("look 5 is used", x.signed(0), NOTHING);
        String six = "fork 4 to 1;fork 4 to 2;fork 4 to 3;fork 4 to 4;fork 4 to 5;fork 4 to 6;";
        ForgetfulRider y = Told.in(six + "end 2");
        due("six forks", y.signs(4, 2 * UNIT, 0), 0);
        due("six forks", y.signed(4), 2 * UNIT);
        ForgetfulRider z = Told.in(six + "fork 4 to 7;end 2");
        due("seven forks", z.signs(4, 2 * UNIT, 0), NONE);
        due("seven forks", z.signed(4), NOTHING);
    }

    // Promise 26
    private static void visits() {
        ForgetfulRider x = Told.in(LONG_WAY);
        x.terms(1, 3);
        due("visits 0", x.visits(0), 17 * UNIT / 10);
        due("visits 1", x.visits(1), 51 * UNIT / 100);
        due("visits 2, at the day, too", x.visits(2), 119 * UNIT / 100);
        due("visits 3", x.visits(3), 3 * UNIT / 10);
        due("visits 4", x.visits(4), NOTHING);
        due("visits -1", x.visits(-1), NOTHING);
        ForgetfulRider y = Told.in("inn 0 to 0");
        due("eleven times", y.visits(0), 11 * UNIT);
        y.terms(0, 3);
        due("never", y.visits(0), 0);
    }

    // Promise 27
    private static void ends() {
        ForgetfulRider x = Told.in("turn 1 by 2,9 by 3,2 by 5;end 1;inn 0 to 2;end 7");
        due("end", x.ends(1), 2 * UNIT / 10);
        due("an end that he can't come to", x.ends(3), 0);
        due("late", x.ends(16), 5 * UNIT / 10);
        due("lost", x.ends(17), 3 * UNIT / 10);
        due("turn", x.ends(0), NOTHING);
        due("inn", x.ends(2), NOTHING);
        due("not there", x.ends(4), NOTHING);
        due("not there", x.ends(15), NOTHING);
        due("18", x.ends(18), NOTHING);
        due("-1", x.ends(-1), NOTHING);
        x.terms(1, 1);
        due("an end at the day", x.ends(1), 2 * UNIT / 10);
        due("lost at the day", x.ends(17), 3 * UNIT / 10);
        x.terms(0, 15);
        due("lost from the start", x.ends(17), UNIT);
    }

    // Promise 28
    private static void belief() {
        ForgetfulRider x = Told.in(ALIKE + ";fork 0 to 0;fork 3 to 0");
        x.rule(0, 5, 5);
        due("first school", x.belief(0, 0), 666666);
        due("first school", x.belief(1, 0), 333333);
        due("second school", x.belief(0, 1), 750000);
        due("second school", x.belief(1, 1), 250000);
        due("never there, though the look is seen", x.belief(5, 0), 0);
        due("never there, though the look is seen", x.belief(5, 1), 0);
        due("its look is never seen", x.belief(6, 0), NONE);
        due("its look is never seen", x.belief(6, 1), NONE);
        due("no fork", x.belief(2, 0), NONE);
        due("not there", x.belief(7, 0), NONE);
        due("not there", x.belief(-1, 1), NONE);
        due("school 2", x.belief(0, 2), NONE);
        due("school -1", x.belief(0, -1), NONE);
        ForgetfulRider y = Told.in("turn 1 by 5,2 by 5;end 0;fork 0 to 3;fork 0 to 4;end 0");
        due("rides that have any", y.belief(2, 1), 500000);
        y.terms(1, 1);
        due("seen at the day, too", y.belief(2, 1), 1000000);
        ForgetfulRider z = Told.in("fork 0 to 0,1;fork 0 to 1");
        z.rule(0, 0, 10);
        due("eleven visits, one of them here", z.belief(0, 0), 90909);
        due("eleven visits, one of them here", z.belief(0, 1), 90909);
        due("eleven visits, ten of them there", z.belief(1, 1), 909090);
    }

    // Promises 29, 30
    private static void bets() {
        ForgetfulRider x = Told.in(ALIKE + ";fork 3 to 0");
        x.rule(0, 5, 5);
        due("bet", x.bet(0, 60), 10 * UNIT);
        due("bet", x.bet(0, 67), -5 * UNIT / 10);
        due("bet at 0", x.bet(1, 0), 50 * UNIT);
        due("bet at 100", x.bet(1, 100), -100 * UNIT);
        due("bet at 101", x.bet(0, 101), NOTHING);
        due("bet at -1", x.bet(0, -1), NOTHING);
        due("bet on no fork", x.bet(2, 5), NOTHING);
        due("bet on none", x.bet(6, 5), NOTHING);
        due("bet on -1", x.bet(-1, 5), NOTHING);
        due("never seen", x.bet(5, 70), 0);
        due("price", x.price(0), 66);
        due("price", x.price(1), 33);
        due("price of no fork", x.price(2), NONE);
        due("price of none", x.price(6), NONE);
        due("price of -1", x.price(-1), NONE);
        due("price never seen", x.price(5), 100);
        x.paint(5, 0);
        due("price never there", x.price(5), 0);
        x.paint(1, 2);
        due("price alone", x.price(0), 100);
        due("gain 0", x.bet(0, 100), 0);
    }

    // Promises 31, 32
    private static void rides() {
        ForgetfulRider x = Told.in("fork 0 to 1,9,2;turn 0 by 2,2 by 8;inn 7 to 3;end step;fork 1 to 12");
        x.rule(0, 4, 1);
        // 12345 % 10 = 5: from 4 on it is road 1 up to 5, so road 2
        due("ride 0", x.ride(0), 2);
        due("rode 0", x.rode(0), 0);
        due("rode 1", x.rode(1), 2);
        due("rode 2", x.rode(2), 3);
        due("rode 3", x.rode(3), NOTHING);
        due("rode -1", x.rode(-1), -5);
        due("rode -2", x.rode(-2), NOTHING);
        due("rode least", x.rode(LEAST), NOTHING);
        due("rode most", x.rode(MOST), NOTHING);
        due("ride -1", x.ride(-1), -1);
        due("ride 1000001", x.ride(1000001), -1);
        due("the latest stays", x.rode(1), 2);
        // (1103 + 12345) % 10 = 8; (1000000 * 1103 + 12345) % 1000003 = 9036: 6
        due("ride 1000000", x.ride(1000000), 2);
        x.rule(0, 6, 1);
        due("to where nothing is", x.ride(1000000), 1);
        due("a place that is not there", x.rode(1), 9);
        due("lost", x.rode(-1), 0);
        x.terms(0, 12);
        x.terms(3, -6);
        due("lost at once", x.ride(5), 0);
        due("lost at once", x.rode(0), 12);
        due("lost at once", x.rode(-1), -6);
        x.terms(0, 2);
        x.terms(1, 1);
        due("an end at the day", x.ride(5), 1);
        due("its worth", x.rode(-1), -6);
        ForgetfulRider y = Told.in("fork 0 to 0;end 1");
        y.terms(2, 44);
        due("to the day", y.ride(3), 10);
        due("late", y.rode(-1), 44);
        due("still there", y.rode(10), 0);
        due("bad text", Told.read(y, "x"), -6);
        due("good text", Told.read(y, "end 1"), 1);
        due("a ride in another country stays", y.rode(10), 0);
    }

    // Promises 33, 34
    private static void images() {
        ForgetfulRider x = Told.in(ALIKE);
        due("back ahead of any", x.back(0), -2);
        due("status", x.status(), -2);
        due("image 2", x.image(2), -1);
        due("image -1", x.image(-1), -1);
        due("back 2", x.back(2), -1);
        due("back -1", x.back(-1), -1);
        x.paint(1, 2);
        x.rule(1, 2, 3);
        x.terms(2, 33);
        x.ride(7);
        due("image 0", x.image(0), 0);
        x.paint(1, 4);
        x.rule(1, 0, 0);
        x.terms(2, -33);
        due("bad text", Told.read(x, LONG_WAY + "?"), -6);
        due("good text", Told.read(x, LONG_WAY), 4);
        due("fault", Told.read(x, "end"), -6);
        due("image 1", x.image(1), 0);
        due("ride", x.ride(0), 6);
        Told.feed(x, "end 1");
        due("back 0", x.back(0), 0);
        due("places", x.count(0), 5);
        due("look", x.of(1, 1), 2);
        due("tenths", x.tenths(1, 1), 3);
        due("late", x.count(10), 33);
        due("pays", x.pays(3, 0), 4);
        due("the tape is not kept", x.count(3), 5);
        due("the fault is not kept", x.fault(), 3);
        due("the ride is not kept", x.rode(5), 1);
        due("refusals are not kept", x.count(7), 2);
        x.paint(0, 3);
        x.rule(1, 1, 1);
        due("back 0 again", x.back(0), 0);
        due("look again", x.of(0, 1), 0);
        due("tenths again", x.tenths(1, 1), 3);
        due("back 1", x.back(1), 0);
        due("places", x.count(0), 4);
        due("late", x.count(10), -33);
        due("pays", x.pays(3, 1), 90);
        x.image(0);
        due("images are apart", x.back(1), 0);
        ForgetfulRider y = new ForgetfulRider();
        y.image(1);
        due("country", Told.read(y, ALIKE), 5);
        due("back to none", y.back(1), 0);
        due("no places", y.count(0), 0);
        due("no worth", y.worth(), NOTHING);
        due("the other was not kept", y.back(0), -2);
    }

    // Promise 35
    private static void counts() {
        ForgetfulRider x = Told.in("fork 1 to 1;fork 1 to 2;fork 3 to 3;end 1;inn 1 to 1;turn 1 by 10");
        due("places", x.count(0), 6);
        due("forks", x.count(1), 3);
        due("looks", x.count(2), 2);
        Told.feed(x, "end");
        due("bytes", x.count(3), 3);
        due("-1", x.count(-1), -1000);
        due("12", x.count(12), -1000);
        due("least", x.count(LEAST), -1000);
        due("most", x.count(MOST), -1000);
        x.terms(0, 16);
        x.rule(0, 9, 9);
        x.paint(0, 9);
        x.paint(9, 0);
        x.paint(3, 0);
        x.cast(99);
        x.image(7);
        x.back(7);
        x.back(0);
        x.ride(-5);
        x.country();
        due("by -1", x.count(4), 7);
        due("by -2", x.count(5), 2);
        due("by -3", x.count(6), 1);
        due("by -6", x.count(7), 1);
        x.of(99, 99);
        x.pays(99, 99);
        x.end(-1);
        x.signs(9, 9, 9);
        x.belief(-1, 0);
        due("questions are not refused", x.count(4), 7);
        x.terms(0, 5);
        x.terms(1, 6);
        x.terms(2, 7);
        x.terms(3, 8);
        for (int what = 8; what < 12; what++) {
            due("terms", x.count(what), what - 3);
        }
    }

    // Promise 36
    private static void status() {
        ForgetfulRider x = Told.in(ALIKE);
        due("after country", x.status(), 0);
        x.terms(0, 99);
        due("after terms", x.status(), -1);
        x.worth();
        x.end(-1);
        x.belief(-1, -1);
        x.feed(0, 0, 0, 0, 0);
        x.count(99);
        due("other calls leave it", x.status(), -1);
        x.rule(0, 1, 1);
        due("after rule", x.status(), 0);
        x.paint(8, 0);
        due("after paint", x.status(), -2);
        x.follow();
        due("after follow", x.status(), 0);
        x.paint(4, 0);
        due("after paint", x.status(), -3);
        x.cast(1);
        due("after cast", x.status(), 0);
        x.country();
        due("after a bad text", x.status(), -6);
        x.ride(1);
        due("after ride", x.status(), 0);
        x.ride(-1);
        due("after ride", x.status(), -1);
        x.image(0);
        due("after image", x.status(), 0);
        x.back(1);
        due("after back", x.status(), -2);
        x.back(0);
        due("after back", x.status(), 0);
    }
}
