import java.io.IOException;

/** The document's edges, sentence by sentence: "Terms" II, and promises 9 to 25. */
public final class EdgesOfRulesTest {
    private static final long NOTHING = ForgetfulRider.NOTHING;
    private static final int NONE = ForgetfulRider.NONE;
    private static final long UNIT = 10_000_000_000L;
    private static final int LEAST = Integer.MIN_VALUE;
    private static final int MOST = Integer.MAX_VALUE;

    /** He should leave at the second crossroads, and can't tell them apart. */
    private static final String ALIKE = "fork 0 to 1,2;fork 0 to 4,3;end 0;end 4;end 1";
    /** Road 1 at the first fork and the last, road 0 at those between. */
    private static final String OFF_ON_ON_OFF = "fork 0 to 7,1;fork 0 to 2,7;fork 0 to 3,7;fork 0 to 7,4;end 9";
    private static final String FOUR_LOOKS = "fork 0 to 9,9;fork 1 to 9,9;fork 2 to 9,9;fork 3 to 9,9";

    /** With the document's path: whether the sentences are still its words, too. */
    public static void main(String[] args) throws IOException {
        ways();
        overAtDay();
        rules();
        plainRules();
        dice();
        polynomial();
        pockets();
        knowingAndSigns();
        paint();
        ruleAndTenths();
        worthAndFrom();
        plain();
        roadAndFollow();
        die();
        cast();
        power();
        pocket();
        knowing();
        signs();
        signed();
        Told.finishSentences("EdgesOfRulesTest", 9, 25, args);
    }

    private static void due(String call, long got, long want) {
        Told.due(call, got, want);
    }

    private static ForgetfulRider in(String text, int day, int late, int lost) {
        ForgetfulRider x = Told.in(text);
        x.terms(1, day);
        x.terms(2, late);
        x.terms(3, lost);
        return x;
    }

    private static void rows(String call, ForgetfulRider x, int[][] want) {
        for (int look = 0; look < want.length; look++) {
            for (int road = 0; road < 3; road++) {
                due(call + ", tenths " + look + " " + road, x.tenths(look, road), want[look][road]);
            }
        }
    }

    // ---- Terms II

    private static void ways() {
        Told.sentence("Terms II", "at STEP 0 he is at START");
        ForgetfulRider x = in("end step+10;end step+20", 10, 0, 7);
        due("0 at first", x.worth(), 10 * UNIT);
        x.terms(0, 1);
        due("start 1", x.worth(), 20 * UNIT);
        x.terms(0, 2);
        due("start where nothing is", x.worth(), 7 * UNIT);
        x.terms(0, 15);
        due("start 15", x.worth(), 7 * UNIT);

        Told.sentence("Terms II", "at each STEP below DAY he goes on from where he is to the next one, at the next STEP");
        StringBuilder ten = new StringBuilder();
        for (int i = 1; i <= 10; i++) {
            ten.append("inn 0 to ").append(i).append(";");
        }
        for (int day = 1; day <= 10; day++) {
            due("ten steps, day " + day, in(ten + "end step*10", day, -5, 3).worth(), day == 10 ? 100 * UNIT : -5 * UNIT);
        }

        Told.sentence("Terms II", "from an INN by its ROAD, paying its TOLL");
        String inns = "inn 7 to 1;inn 90 to 2;end 50";
        due("two tolls", in(inns, 2, 100, 0).worth(), -47 * UNIT);
        due("not where he stays", in(inns, 1, 100, 0).worth(), 93 * UNIT);

        Told.sentence("Terms II", "At an END it is over: he has its worth");
        due("at steps 1, 2, 3", in("turn 1 by 5,0 by 5;end step", 3, 0, 0).worth(), 1375 * UNIT / 1000);
        due("at step 0", in("end 5;end 9", 10, 1, 1).worth(), 5 * UNIT);

        Told.sentence("Terms II", "where there is no PLACE it is over: he has LOST");
        due("lost", in("turn 1 by 4,15 by 6", 10, 1, 30).worth(), 30 * UNIT);
        due("less tolls", in("inn 5 to 1", 10, 1, 30).worth(), 25 * UNIT);
    }

    private static void overAtDay() {
        Told.sentence("Terms II", "At STEP DAY it is over: at no END he has LATE (a PLACE that is not there: LOST).");
        due("fork", in("inn 0 to 1;fork 0 to 2;end 44", 1, 11, 22).worth(), 11 * UNIT);
        due("turn", in("inn 0 to 1;turn 2 by 10;end 44", 1, 11, 22).worth(), 11 * UNIT);
        due("inn", in("inn 0 to 1;inn 9 to 2;end 44", 1, 11, 22).worth(), 11 * UNIT);
        due("end", in("inn 0 to 1;end 33", 1, 11, 22).worth(), 33 * UNIT);
        due("not there", in("inn 0 to 1", 1, 11, 22).worth(), 22 * UNIT);
        due("not there, 15", in("inn 0 to 15", 1, 11, 22).worth(), 22 * UNIT);
        due("day 10", in("inn 0 to 0", 10, 11, 22).worth(), 11 * UNIT);

        Told.sentence("Terms II", "A RIDE is worth that, less all TOLLS.");
        due("as little as can be", in("inn 99 to 0", 10, -999, 0).worth(), -1989 * UNIT);
        due("as much as can be", in("inn 0 to 0", 10, 999, 0).worth(), 999 * UNIT);
    }

    private static void rules() {
        Told.sentence("Terms II", "A RULE tells of each LOOK TENTHS of three ROADS, together 10 (10, 0, 0 at first)");
        int[] one = {10, 0, 0};
        rows("new", new ForgetfulRider(), new int[][] {one, one, one, one, one, one});

        Told.sentence("Terms II", "at a FORK with fewer ROADS those of ROADS that are not there go to its last one");
        ForgetfulRider x = Told.in("fork 0 to 3,4,5;fork 0 to 3,4;fork 0 to 3;end 1;end 10;end 100");
        long[][] want = {{532, 82, 10}, {1000, 100, 10}, {100, 100, 10}, {10, 10, 10}, {910, 100, 10}};
        int[][] told = {{2, 3}, {0, 0}, {0, 10}, {10, 0}, {0, 1}};
        for (int i = 0; i < want.length; i++) {
            x.rule(0, told[i][0], told[i][1]);
            for (int start = 0; start < 3; start++) {
                x.terms(0, start);
                due("rule " + i + " fork " + start, x.worth(), want[i][start] * UNIT / 10);
            }
        }

        Told.sentence("Terms II", "told in ten-thousandths of millionths, exactly");
        String seldom = "turn 0 by 1,1 by 9;end 0";
        due("the least chance", in(seldom, 10, 1, 0).worth(), 1);
        due("the least chance", in(seldom, 10, -1, 0).worth(), -1);
        due("the least chance", in(seldom, 10, 999, 0).worth(), 999);
        due("nine tenths ten times", in("turn 0 by 9,1 by 1;end 0", 10, 1, 0).worth(), 3486784401L);
        ForgetfulRider y = in("fork 3 to 0,1;end 0", 10, 1, 0);
        y.rule(3, 3, 7);
        due("three tenths ten times", y.worth(), 59049);

        Told.sentence("Terms II", "USED are LOOKS of FORKS that there are.");
        ForgetfulRider z = Told.in("end 1;fork 3 to 0;fork 0 to 2;fork 5 to 15");
        due("though he can't come there", z.used(), 41);
        Told.read(z, "turn 0 by 10;inn 3 to 1;fork 1 to 0");
        due("not those that were", z.used(), 2);
        Told.read(z, "end 1");
        due("none", z.used(), 0);
    }

    private static void plainRules() {
        Told.sentence("Terms II", "PLAIN RULES have one ROAD for each LOOK that is USED (10 TENTHS; others 10, 0, 0): "
                + "a ROAD that some FORK with that LOOK has.");
        ForgetfulRider x = Told.in("fork 2 to 3,1;fork 2 to 3,3,4;fork 4 to 3,3;end 1;end 9");
        due("3 and 2 roads", x.plain(2), 6);
        due("road 2 is the last at a fork with two", x.plain(0), 9 * UNIT);
        due("road 2", x.road(2), 2);
        for (int look = 0; look < 6; look++) {
            x.rule(look, 1, 2);
        }
        x.follow();
        int[] one = {10, 0, 0};
        rows("follow", x, new int[][] {one, one, {0, 0, 10}, one, one, one});
        due("one road each", Told.in("fork 0 to 1;fork 1 to 2;end 1").plain(2), 1);
        due("no fork", Told.in("end 1").plain(2), 1);
        due("three roads at all looks", sixLooks().plain(2), 729);

        Told.sentence("Terms II", "The BEST: of most WORTH; the first as a row of ROADS by LOOKS.");
        ForgetfulRider y = Told.in("fork 3 to 1,2;fork 0 to 4,3,5;fork 0 to 3,4;end 8;end 2;end 8");
        due("worth", y.plain(0), 8 * UNIT);
        due("rows 0 1, 1 0 and 2 0", y.plain(1), 3);
        due("first by look 0", y.road(0), 0);
        due("then by look 3", y.road(3), 1);
        ForgetfulRider z = Told.in("fork 0 to 1,2,3;end 0-5;end 0-3;end 0-3");
        due("all below 0", z.plain(0), -3 * UNIT);
        due("all below 0", z.plain(1), 2);
        due("all below 0", z.road(0), 1);
    }

    private static ForgetfulRider sixLooks() {
        return Told.in("fork 0 to 1,1,1;fork 1 to 2,2,2;fork 2 to 3,3,3;fork 3 to 4,4,4;fork 4 to 5,5,5;fork 5 to 6,6,6;end 1");
    }

    private static void dice() {
        Told.sentence("Terms II", "With a DIE for some LOOKS (bits; those that are USED count, 3 at most)");
        ForgetfulRider x = Told.in(FOUR_LOOKS);
        due("no look", x.die(0, 2), 1);
        due("looks that are not used", x.die(0x30, 2), 1);
        due("one", x.die(8, 2), 11);
        due("two", x.die(5, 2), 121);
        due("three", x.die(14, 2), 1331);
        due("three and two that are not used", x.die(0x3e, 2), 1331);
        due("four", x.die(15, 2), NOTHING);
        due("six", x.die(63, 2), NOTHING);
        due("four with one road each", Told.in("fork 0 to 1;fork 1 to 2;fork 2 to 3;fork 3 to 4").die(15, 2), NOTHING);

        Told.sentence("Terms II", "all TENTHS of them (of ROADS that some FORK with that LOOK has), all other LOOKS as told");
        due("one road", Told.in("fork 0 to 1;end 5").die(1, 2), 1);
        due("two roads", Told.in("fork 0 to 1,1;end 5;fork 0 to 1").die(1, 2), 11);
        due("three roads", Told.in("fork 0 to 1;end 5;fork 0 to 1,1,1").die(1, 2), 66);
        ForgetfulRider y = Told.in(ALIKE);
        y.paint(1, 1);
        y.rule(0, 9, 1);
        y.rule(1, 4, 6);
        due("look 0 alone", y.die(1, 0), 28 * UNIT / 10);
        due("look 1 alone", y.die(2, 0), 36 * UNIT / 10);
        due("both", y.die(3, 0), 4 * UNIT);
        due("none", y.die(0, 0), 252 * UNIT / 100);

        Told.sentence("Terms II", "the BEST, the first as a row of TENTHS by LOOKS, ROADS (fewer ahead)");
        ForgetfulRider z = Told.in("fork 1 to 1,1,2;end 5;end 0;fork 0 to 1,1;fork 4 to 1");
        due("all without road 2", z.die(0x13, 1), 121);
        z.cast(0x13);
        rows("the first", z, new int[][] {{0, 10, 0}, {0, 10, 0}, {10, 0, 0}, {10, 0, 0}, {10, 0, 0}, {10, 0, 0}});
        ForgetfulRider last = Told.in("fork 0 to 1,1,1;end 5");
        last.cast(1);
        rows("road 2 comes ahead of all", last, new int[][] {{0, 0, 10}});

        Told.sentence("Terms II", "With more than 5,000 such RULES none is sought.");
        ForgetfulRider many = Told.in("fork 0 to 9,9,9;fork 1 to 9,9,9;fork 2 to 9,9;fork 3 to 9,9;fork 4 to 9");
        due("66 times 66", many.die(3, 2), 4356);
        due("all are sought", many.die(3, 1), 4356);
        due("66 times 66 times 1", many.die(0x13, 2), 4356);
        due("66 times 11 times 11", many.die(0xd, 2), NOTHING);
        due("66 times 66 times 11", many.die(7, 2), NOTHING);
        due("66 times 66 times 66", sixLooks().die(7, 2), NOTHING);
        due("cast of too many", many.cast(0xd), -3);
    }

    private static void powers(String call, ForgetfulRider x, int look, long... want) {
        for (int k = 0; k <= 10; k++) {
            due(call + ", p to the " + k, x.power(look, k), k < want.length ? want[k] : 0);
        }
    }

    private static void polynomial() {
        Told.sentence("Terms II", "the chance p of ROAD 0 of a LOOK, 1 - p of ROAD 1, 0 of ROAD 2, all else as told");
        String ends = ";end 5;end 7;end 900";
        ForgetfulRider x = Told.in("fork 0 to 1,2,3" + ends);
        x.rule(0, 0, 0);
        powers("three roads", x, 0, 7 * UNIT, -2 * UNIT);
        powers("two roads", Told.in("fork 0 to 1,2" + ends), 0, 7 * UNIT, -2 * UNIT);
        powers("one road", Told.in("fork 0 to 2" + ends), 0, 7 * UNIT);
        ForgetfulRider y = Told.in("fork 1 to 1,4,5;fork 0 to 2,3;end 5;end 7;end 100;end 30");
        y.rule(1, 2, 3);
        powers("another look as told", y, 0, 464 * UNIT / 10, -4 * UNIT / 10);
        y.rule(0, 5, 5);
        powers("another look as told", y, 1, 100 * UNIT, -94 * UNIT);
        powers("a look that is not used", y, 2, 462 * UNIT / 10);
    }

    private static void pockets() {
        Told.sentence("Terms II", "a RULE tells of each LOOK that is USED (3 at most) and either POCKET "
                + "a ROAD (as above) and the POCKET then: its BEST WORTH");
        due("he can tell two forks apart", Told.in(ALIKE).pocket(), 4 * UNIT);
        due("road 2", Told.in("fork 0 to 1,2,3;end 1;end 2;end 9").pocket(), 9 * UNIT);
        String onOnOff = "fork 0 to 1,7;fork 0 to 2,7;fork 0 to 7,3;end 9";
        due("not three", Told.in(onOnOff).pocket(), 0);
        due("not four", Told.in(OFF_ON_ON_OFF).pocket(), 0);
        ForgetfulRider x = Told.in(onOnOff);
        x.paint(1, 1);
        due("with another look", x.pocket(), 9 * UNIT);
        ForgetfulRider y = in("end 0;fork 0 to 2,0;turn 3 by 9,0 by 1;inn 8 to 4;fork 0 to 0,5;end 50", 10, 0, 0);
        y.terms(0, 1);
        due("through a turn and an inn", y.pocket(), 378 * UNIT / 10);
    }

    private static void knowingAndSigns() {
        Told.sentence("Terms II", "KNOWING where and when he is, at each FORK he would take the ROAD that is best");
        String waits = "fork 0 to 0,1;end step if step > 4";
        due("he waits for the day", Told.in(waits).knowing(), 10 * UNIT);
        due("in vain", in(waits, 4, -3, 0).knowing(), 0);
        due("late is better", in(waits, 4, 3, 0).knowing(), 3 * UNIT);
        due("all below 0", Told.in("fork 0 to 1,2;end 0-5;end 0-3").knowing(), -3 * UNIT);

        Told.sentence("Terms II", "SIGNS: of FORKS of a LOOK (6 at most) some are painted with LOOK 5, "
                + "if it is not USED otherwise");
        due("none of them", Told.in(ALIKE).signs(0, UNIT, 1), 0);
        due("some of them", Told.in(OFF_ON_ON_OFF).signs(0, 9 * UNIT, 1), 6);
        ForgetfulRider x = Told.in(ALIKE + ";fork 4 to 0");
        due("no other look is used", x.signed(0), 4 * UNIT);
        x.paint(5, 5);
        due("a fork that he can't come to has it", x.signed(0), NOTHING);
    }

    // ---- Promises 9 to 25

    private static void paint() {
        Told.sentence("Promise 9", "A FORK is painted with a LOOK: which it had. -1; -2; -3 no FORK.");
        ForgetfulRider x = Told.in("fork 1 to 1;end 1;turn 0 by 10;inn 1 to 0;fork 0 to 4");
        due("to 5", x.paint(0, 5), 1);
        due("to 0", x.paint(0, 0), 5);
        due("to the same", x.paint(0, 0), 0);
        due("the last place", x.paint(4, 3), 0);
        for (int look : new int[] {-1, 6, LEAST, MOST}) {
            due("look " + look, x.paint(0, look), -1);
        }
        for (int place : new int[] {-1, 5, 15, 16, LEAST, MOST}) {
            due("place " + place, x.paint(place, 0), -2);
        }
        for (int place = 1; place < 4; place++) {
            due("place " + place, x.paint(place, 0), -3);
        }
        due("by -1", x.count(4), 4);
        due("by -2", x.count(5), 6);
        due("by -3", x.count(6), 3);
        due("look stays", x.of(0, 1), 0);
        due("look stays", x.of(4, 1), 3);
        due("no places", new ForgetfulRider().paint(0, 0), -2);

        Told.sentence("Promise 10", "LOOKS that are USED, as bits.");
        due("0 and 3", x.used(), 9);
        x.paint(4, 5);
        due("0 and 5", x.used(), 33);
        x.paint(0, 5);
        due("5", x.used(), 32);
        due("no places", new ForgetfulRider().used(), 0);
    }

    private static void ruleAndTenths() {
        Told.sentence("Promise 11", "TENTHS of ROADS 0, 1 of a LOOK (ROAD 2 has the rest): 0. -1 (together above 10, too).");
        ForgetfulRider x = new ForgetfulRider();
        int[][] good = {{0, 0, 10}, {10, 0, 0}, {0, 10, 0}, {2, 3, 5}, {5, 5, 0}, {0, 9, 1}};
        for (int look = 0; look < 6; look++) {
            due("rule", x.rule(look, good[look][0], good[look][1]), 0);
        }
        int[][] bad = {{-1, 1, 1}, {6, 1, 1}, {LEAST, 1, 1}, {MOST, 1, 1}, {1, -1, 1}, {1, 1, -1}, {1, -1, 11}, {1, 11, -1},
            {1, 11, 0}, {1, 0, 11}, {1, 10, 1}, {1, 1, 10}, {1, 5, 6}, {1, MOST, 1}, {1, 1, MOST}, {1, MOST, MOST},
            {1, LEAST, LEAST}, {1, LEAST, 10}};
        for (int[] b : bad) {
            due("rule " + b[0] + " " + b[1] + " " + b[2], x.rule(b[0], b[1], b[2]), -1);
        }
        due("refused", x.count(4), bad.length);
        rows("those stay", x, good);

        Told.sentence("Promise 12", "TENTHS of a ROAD 0 .. 2 of a LOOK. NONE.");
        due("first", x.tenths(0, 0), 0);
        due("last", x.tenths(5, 2), 1);
        for (int no : new int[] {-1, LEAST, MOST}) {
            due("look " + no, x.tenths(no, 0), NONE);
            due("road " + no, x.tenths(0, no), NONE);
        }
        due("look 6", x.tenths(6, 0), NONE);
        due("road 3", x.tenths(0, 3), NONE);
    }

    private static void worthAndFrom() {
        Told.sentence("Promise 13", "WORTH of the RULE as told. NOTHING (no PLACES).");
        ForgetfulRider x = new ForgetfulRider();
        due("no places", x.worth(), NOTHING);
        Told.read(x, "fork 0 to 1,2,3;end 1;end 10;end 100");
        x.rule(0, 1, 2);
        due("as told", x.worth(), 721 * UNIT / 10);
        x.rule(0, 0, 0);
        due("as told then", x.worth(), 100 * UNIT);

        Told.sentence("Promise 14", "WORTH from a PLACE at a STEP (0 .. DAY) on. NOTHING.");
        ForgetfulRider y = in("inn 1 to 1;inn 2 to 2;end step*100", 3, -7, 0);
        y.terms(0, 9);
        due("at 0", y.from(0, 0), 197 * UNIT);
        due("at 1", y.from(0, 1), 297 * UNIT);
        due("at 2", y.from(0, 2), -8 * UNIT);
        due("at the day", y.from(0, 3), -7 * UNIT);
        due("an end at the day", y.from(2, 3), 300 * UNIT);
        for (int step : new int[] {-1, 4, 10, 11, LEAST, MOST}) {
            due("step " + step, y.from(2, step), NOTHING);
        }
        for (int place : new int[] {-1, 3, 9, 15, 16, LEAST, MOST}) {
            due("place " + place, y.from(place, 0), NOTHING);
        }
        y.terms(1, 10);
        due("day 10", y.from(2, 10), 999 * UNIT);
        due("behind it", y.from(2, 11), NOTHING);
        due("no places", new ForgetfulRider().from(0, 0), NOTHING);
    }

    private static void plain() {
        Told.sentence("Promise 15", "BEST of PLAIN RULES: its WORTH (what 0), how many have it (1), how many there are (2). "
                + "NOTHING (no PLACES, too).");
        ForgetfulRider x = new ForgetfulRider();
        for (int what = 0; what < 3; what++) {
            due("no places", x.plain(what), NOTHING);
        }
        Told.read(x, "fork 0 to 1,2,2;end 5;end 6;fork 3 to 1,2");
        due("worth", x.plain(0), 6 * UNIT);
        due("have it", x.plain(1), 4);
        due("there are", x.plain(2), 6);
        for (int what : new int[] {-1, 3, LEAST, MOST}) {
            due("what " + what, x.plain(what), NOTHING);
        }
        ForgetfulRider y = sixLooks();
        due("all of them have it", y.plain(1), 729);
        x.terms(0, 15);
        due("he sees none", x.plain(1), 6);
    }

    private static void roadAndFollow() {
        Told.sentence("Promise 16", "ROAD of a LOOK in the first BEST of PLAIN RULES. NONE (no PLACES, too).");
        ForgetfulRider x = new ForgetfulRider();
        due("no places", x.road(0), NONE);
        Told.read(x, "fork 0 to 1,2,3;end 5;end 6;end 6;fork 5 to 1,2");
        due("the first of two", x.road(0), 1);
        due("of a look that he never sees", x.road(5), 0);
        due("of a look that is not used", x.road(2), 0);
        for (int look : new int[] {-1, 6, LEAST, MOST}) {
            due("look " + look, x.road(look), NONE);
        }

        Told.sentence("Promise 17", "The first BEST of PLAIN RULES becomes the RULE: 0. -3 no PLACES.");
        x.rule(0, 1, 1);
        x.rule(2, 1, 1);
        x.rule(5, 1, 1);
        due("follow", x.follow(), 0);
        rows("follow", x, new int[][] {{0, 10, 0}, {10, 0, 0}, {10, 0, 0}, {10, 0, 0}, {10, 0, 0}, {10, 0, 0}});
        ForgetfulRider y = new ForgetfulRider();
        y.rule(0, 1, 1);
        due("no places", y.follow(), -3);
        due("refused", y.count(6), 1);
        due("the rule stays", y.tenths(0, 2), 8);
    }

    private static void die() {
        Told.sentence("Promise 18", "BEST with a DIE for some LOOKS (bits 0 .. 63): its WORTH (what 0), "
                + "how many RULES have it (1), how many there are (2). NOTHING (more than 3, than 5,000, no PLACES, too).");
        ForgetfulRider x = Told.in(ALIKE);
        due("worth", x.die(1, 0), 133 * UNIT / 100);
        due("have it", x.die(1, 1), 1);
        due("there are", x.die(1, 2), 11);
        due("bits 63", x.die(63, 0), 133 * UNIT / 100);
        due("bits 0", x.die(0, 0), UNIT);
        due("bits 0", x.die(0, 1), 1);
        for (int looks : new int[] {-1, 64, 65, LEAST, MOST}) {
            due("bits " + looks, x.die(looks, 0), NOTHING);
        }
        for (int what : new int[] {-1, 3, LEAST, MOST}) {
            due("what " + what, x.die(1, what), NOTHING);
        }
        ForgetfulRider four = Told.in(FOUR_LOOKS);
        ForgetfulRider many = Told.in("fork 0 to 9,9,9;fork 1 to 9,9;fork 2 to 9,9");
        ForgetfulRider none = new ForgetfulRider();
        for (int what = 0; what < 3; what++) {
            due("more than 3", four.die(15, what), NOTHING);
            due("more than 5,000", many.die(7, what), NOTHING);
            due("no places", none.die(0, what), NOTHING);
        }
        due("two of those are not too many", many.die(3, 2), 726);
        due("the rule stays", x.tenths(0, 0), 10);
        ForgetfulRider asked = Told.in("fork 0 to 1,1;end 5");
        asked.signed(0);
        due("have it, though signs were asked for ahead", asked.die(1, 1), 11);
    }

    private static void cast() {
        Told.sentence("Promise 19", "The first BEST with a DIE becomes the RULE: 0. -1 looks; -3 there is none.");
        ForgetfulRider x = Told.in(ALIKE + ";fork 2 to 0;fork 3 to 0");
        x.rule(1, 1, 1);
        x.rule(2, 1, 1);
        x.rule(3, 1, 1);
        due("cast", x.cast(0x37), 0);
        rows("one road, not used, not told", x, new int[][] {{7, 3, 0}, {1, 1, 8}, {10, 0, 0}, {1, 1, 8}, {10, 0, 0}});
        due("its worth", x.worth(), 133 * UNIT / 100);
        x.rule(0, 4, 4);
        due("no look", x.cast(0), 0);
        rows("stays", x, new int[][] {{4, 4, 2}, {1, 1, 8}, {10, 0, 0}, {1, 1, 8}, {10, 0, 0}});
        for (int looks : new int[] {-1, 64, LEAST, MOST}) {
            due("bits " + looks, x.cast(looks), -1);
        }
        due("by -1", x.count(4), 4);
        ForgetfulRider four = Told.in(FOUR_LOOKS);
        four.rule(0, 4, 4);
        due("more than 3", four.cast(15), -3);
        Told.read(four, "fork 0 to 9,9,9;fork 1 to 9,9;fork 2 to 9,9");
        due("more than 5,000", four.cast(7), -3);
        due("by -3", four.count(6), 2);
        due("the rule stays", four.tenths(0, 2), 2);
        due("no places", new ForgetfulRider().cast(1), -3);
        due("no places, no look", new ForgetfulRider().cast(0), -3);
    }

    private static void power() {
        Told.sentence("Promise 20", "The POLYNOMIAL of a LOOK: of p to the k-th (0 .. 10). NOTHING (no PLACES, too).");
        ForgetfulRider x = in("fork 5 to 0,1;end 0", 10, 3, 0);
        powers("ten times road 0", x, 5, 0, 0, 0, 0, 0, 0, 0, 0, 0, 0, 3 * UNIT);
        x.terms(1, 9);
        powers("nine times road 0", x, 5, 0, 0, 0, 0, 0, 0, 0, 0, 0, 3 * UNIT);
        x.terms(1, 10);
        x.terms(2, 0);
        powers("nothing", x, 5);
        ForgetfulRider y = in("fork 0 to 1,0;end 0", 10, 999, 0);
        powers("ten times road 1: large numbers of either sign", y, 0, 999 * UNIT, -9990 * UNIT, 44955 * UNIT,
                -119880 * UNIT, 209790 * UNIT, -251748 * UNIT, 209790 * UNIT, -119880 * UNIT, 44955 * UNIT, -9990 * UNIT,
                999 * UNIT);
        for (int bad : new int[] {-1, LEAST, MOST}) {
            due("look " + bad, x.power(bad, 0), NOTHING);
            due("k " + bad, x.power(0, bad), NOTHING);
        }
        due("look 6", x.power(6, 0), NOTHING);
        due("k 11", x.power(0, 11), NOTHING);
        due("no places", new ForgetfulRider().power(0, 0), NOTHING);
    }

    private static void pocket() {
        Told.sentence("Promise 21", "BEST with a POCKET. NOTHING (more than 3 LOOKS USED, no PLACES, too).");
        ForgetfulRider x = Told.in("fork 0 to 1;fork 1 to 2;fork 2 to 3;end 8;fork 2 to 3");
        due("three looks", x.pocket(), 8 * UNIT);
        x.paint(4, 3);
        due("four looks, one never seen", x.pocket(), NOTHING);
        x.paint(0, 1);
        due("three again", x.pocket(), 8 * UNIT);
        due("no fork", Told.in("end 0-3").pocket(), -3 * UNIT);
        due("all below 0", Told.in("fork 0 to 1,2;end 0-5;end 0-3").pocket(), -3 * UNIT);
        due("no places", new ForgetfulRider().pocket(), NOTHING);
    }

    private static void knowing() {
        Told.sentence("Promise 22", "KNOWING. NOTHING (no PLACES).");
        ForgetfulRider x = new ForgetfulRider();
        due("no places", x.knowing(), NOTHING);
        Told.read(x, ALIKE);
        due("knowing", x.knowing(), 4 * UNIT);
        x.rule(0, 0, 10);
        due("whatever the rule is", x.knowing(), 4 * UNIT);

        Told.sentence("Promise 23", "KNOWING: the ROAD from a FORK at a STEP below DAY (the lowest that is best). NONE.");
        ForgetfulRider y = in("fork 0 to 1,2,3;end 5;end 7;end 7;turn 0 by 10;inn 0 to 0;fork 1 to 4;fork 0 to 3,1,3", 6, 0, 0);
        due("the lowest of two", y.knows(0, 0), 1);
        due("the lowest of two, not beside one another", y.knows(7, 0), 0);
        due("at the last step below day", y.knows(0, 5), 1);
        ForgetfulRider when = Told.in("fork 0 to 1,2;end 10-step;end step");
        for (int step = 0; step < 10; step++) {
            due("by the step at which he would come, from " + step, when.knows(0, step), step + 1 > 5 ? 1 : 0);
        }
        due("one road, never there", y.knows(6, 3), 0);
        for (int step : new int[] {-1, 6, 7, 10, 11, LEAST, MOST}) {
            due("step " + step, y.knows(0, step), NONE);
        }
        for (int place : new int[] {-1, 1, 4, 5, 8, 16, LEAST, MOST}) {
            due("place " + place, y.knows(place, 0), NONE);
        }
        due("no places", new ForgetfulRider().knows(0, 0), NONE);
    }

    private static void signs() {
        Told.sentence("Promise 24", "is worth a told number (in ten-thousandths of millionths) at least: the fewest (what 0), "
                + "the lowest such as bits of PLACES (1).");
        ForgetfulRider x = Told.in(ALIKE);
        due("as it is", x.signs(0, UNIT, 0), 0);
        due("one above", x.signs(0, UNIT + 1, 0), 1);
        due("all that is to be had", x.signs(0, 4 * UNIT, 0), 1);
        due("the lower of two", x.signs(0, 4 * UNIT, 1), 1);
        due("no number is too low", x.signs(0, Long.MIN_VALUE, 0), 0);
        due("below 0", Told.in("fork 0 to 1;end 0-5").signs(0, -5 * UNIT, 0), 0);
        due("two of four", Told.in(OFF_ON_ON_OFF).signs(0, 9 * UNIT, 0), 2);
        due("1 and 2, not 0 and 3", Told.in(OFF_ON_ON_OFF).signs(0, 9 * UNIT, 1), 6);
        due("2, not 0 and 1", Told.in("fork 0 to 1,7;fork 0 to 2,7;fork 0 to 7,3;end 9").signs(0, 9 * UNIT, 1), 4);
        ForgetfulRider high = Told.in("fork 1 to 12;" + "end 0;".repeat(11)
                + "fork 4 to 14,1;end 9;fork 4 to 15,1;fork 4 to 1,13");
        due("the highest place", high.signs(4, 9 * UNIT, 1), 32768);

        Told.sentence("Promise 24", "NONE (no FORK of it, more than 6, LOOK 5 is USED, not to be had, too).");
        due("not to be had", x.signs(0, 4 * UNIT + 1, 0), NONE);
        due("not to be had", x.signs(0, Long.MAX_VALUE, 1), NONE);
        due("not to be had, below 0", Told.in("fork 0 to 1;end 0-5").signs(0, -5 * UNIT + 1, 0), NONE);
        for (int look : new int[] {-1, 5, 6, LEAST, MOST}) {
            due("look " + look, x.signs(look, 0, 0), NONE);
        }
        for (int what : new int[] {-1, 2, LEAST, MOST}) {
            due("what " + what, x.signs(0, 0, what), NONE);
        }
        due("no fork of it", x.signs(4, 0, 0), NONE);
        due("six", sixAlike("").signs(4, 0, 0), 0);
        due("six, the last painted", sixAlike("").signs(4, 3 * UNIT, 1), 32);
        due("seven", sixAlike(";fork 4 to 6").signs(4, 0, 0), NONE);
        due("seven of another look", sixAlike(";fork 3 to 6").signs(4, 0, 0), 0);
        due("look 5 is used", sixAlike(";fork 5 to 6").signs(4, 0, 0), NONE);
        due("of look 5", sixAlike(";fork 5 to 6").signs(5, 0, 0), NONE);
        due("no places", new ForgetfulRider().signs(0, 0, 0), NONE);
        due("looks stay", x.used(), 1);
    }

    /** Road 0 five times, then road 1. */
    private static ForgetfulRider sixAlike(String more) {
        return Told.in("fork 4 to 1,9;fork 4 to 2,9;fork 4 to 3,9;fork 4 to 4,9;fork 4 to 5,9;fork 4 to 9,6;end 3" + more);
    }

    private static void signed() {
        Told.sentence("Promise 25", "The best of all SIGNS on FORKS of a LOOK: its WORTH. NOTHING (as for signs).");
        ForgetfulRider x = Told.in(ALIKE);
        due("best", x.signed(0), 4 * UNIT);
        due("below 0", Told.in("fork 0 to 1;end 0-5").signed(0), -5 * UNIT);
        for (int look : new int[] {-1, 5, 6, LEAST, MOST}) {
            due("look " + look, x.signed(look), NOTHING);
        }
        due("no fork of it", x.signed(4), NOTHING);
        due("six", sixAlike("").signed(4), 3 * UNIT);
        due("seven", sixAlike(";fork 4 to 6").signed(4), NOTHING);
        due("look 5 is used", sixAlike(";fork 5 to 6").signed(4), NOTHING);
        due("of look 5", sixAlike(";fork 5 to 6").signed(5), NOTHING);
        due("no places", new ForgetfulRider().signed(0), NOTHING);
        due("looks stay", x.used(), 1);
        due("the rule stays", x.tenths(0, 0), 10);
    }
}
