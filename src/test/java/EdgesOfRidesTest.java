import java.io.IOException;

/** The document's edges, sentence by sentence: "Terms" III, and promises 26 to 36. */
public final class EdgesOfRidesTest {
    private static final long NOTHING = ForgetfulRider.NOTHING;
    private static final int NONE = ForgetfulRider.NONE;
    private static final long UNIT = 10_000_000_000L;
    private static final int LEAST = Integer.MIN_VALUE;
    private static final int MOST = Integer.MAX_VALUE;

    private static final String ALIKE = "fork 0 to 1,2;fork 0 to 4,3;end 0;end 4;end 1";
    private static final String HALVES = "turn 0 by 5,1 by 5;turn 0 by 5,1 by 5";
    /** Seeds whose first draw is 0, 1 .. 9. */
    private static final int[] SEED_OF_DRAW = {
        870345, 413408, 956474, 499537, 42600, 585666, 128729, 671795, 214858, 757924};

    /** With the document's path: whether the sentences are still its words, too. */
    public static void main(String[] args) throws IOException {
        visitsAndBeliefs();
        draws();
        roadsByDraws();
        imagesKeep();
        visits();
        ends();
        belief();
        bet();
        price();
        ride();
        rode();
        imageAndBack();
        count();
        status();
        refusedLeavesAll();
        manyCalls();
        Told.finishSentences("EdgesOfRidesTest", 26, 36, args);
    }

    private static void due(String call, long got, long want) {
        Told.due(call, got, want);
    }

    private static ForgetfulRider in(String text, int day) {
        ForgetfulRider x = Told.in(text);
        x.terms(1, day);
        return x;
    }

    // ---- Terms III

    private static void visitsAndBeliefs() {
        Told.sentence("Terms III", "VISITS of a PLACE: how often he is there (at DAY, too).");
        due("day 10", in("inn 0 to 0", 10).visits(0), 11 * UNIT);
        due("day 1", in("inn 0 to 0", 1).visits(0), 2 * UNIT);
        due("at the day alone", in("inn 0 to 1;inn 0 to 0", 1).visits(1), UNIT);
        due("an end, once", in("inn 0 to 1;end 1", 10).visits(1), UNIT);

        Told.sentence("Terms III", "by the FIRST school its mean VISITS through those of all FORKS with that LOOK");
        ForgetfulRider x = Told.in(ALIKE);
        x.rule(0, 5, 5);
        due("1 through 1.5", x.belief(0, 0), 666666);
        due("0.5 through 1.5", x.belief(1, 0), 333333);
        x.paint(1, 1);
        due("of that look alone", x.belief(0, 0), 1000000);
        due("seen at the day", in("inn 0 to 1;fork 0 to 0", 1).belief(1, 0), 1000000);

        Told.sentence("Terms III", "by the SECOND the mean of what part of all VISITS of FORKS with that LOOK in a RIDE "
                + "are of it, over RIDES that have any");
        x.paint(1, 0);
        due("1 or a half", x.belief(0, 1), 750000);
        due("0 or a half", x.belief(1, 1), 250000);
        due("rides without any", Told.in("turn 1 by 5,2 by 5;end 0;fork 0 to 3;fork 0 to 4;end 0").belief(2, 1), 500000);
        due("seen at the day", in("inn 0 to 1;fork 0 to 0", 1).belief(1, 1), 1000000);
        ForgetfulRider y = Told.in("fork 0 to 1;fork 0 to 1");
        due("one of eleven", y.belief(0, 1), 90909);
        due("ten of eleven", y.belief(1, 1), 909090);

        Told.sentence("Terms III", "each time that he sees a LOOK he pays a PRICE 0 .. 100, and gets 100 if he is at a told FORK");
        due("eleven times 100", in("fork 0 to 0", 10).bet(0, 0), 1100 * UNIT);
        due("once 100, eleven times paid", y.bet(0, 100), -1000 * UNIT);
        due("ten times 100, eleven times paid", y.bet(1, 1), 989 * UNIT);
    }

    private static void way(String call, ForgetfulRider x, int seed, int... want) {
        due(call + ", ride " + seed, x.ride(seed), want.length - 1);
        for (int step = 0; step < want.length; step++) {
            due(call + ", ride " + seed + " at " + step, x.rode(step), want[step]);
        }
    }

    private static void draws() {
        Told.sentence("Terms III", "s becomes (s times 1103 and 12345) modulo 1,000,003, it is s modulo 10");
        ForgetfulRider x = Told.in(HALVES);
        way("draws 5 1 9 7 0 0 3 1 6 6", x, 0, 0, 1, 0, 1, 1, 0, 0, 0, 0, 1, 1);
        way("draws 8 7 0 9 6 3 9 2 7 4", x, 1, 0, 1, 1, 0, 1, 1, 0, 1, 0, 1, 0);
        way("draws 6 6 6 1 8 4 5 4 7 2", x, 1000000, 0, 1, 1, 1, 0, 1, 0, 1, 0, 1, 0);
        way("s is 0: draws 0 5 1 9 7 0 0 3 1 6", x, 870345, 0, 0, 1, 0, 1, 1, 0, 0, 0, 0, 1);
        way("s is 1000002: draws 2 2 5 8 5 7 0 7 3 2", x, 327279, 0, 0, 0, 1, 1, 1, 1, 0, 1, 0, 0);

        Told.sentence("Terms III", "s is the SEED (0 .. 1,000,000)");
        due("0", x.ride(0), 10);
        due("1,000,000", x.ride(1000000), 10);
        due("-1", x.ride(-1), -1);
        due("1,000,001", x.ride(1000001), -1);
    }

    private static void roadsByDraws() {
        Told.sentence("Terms III", "the first ROAD up to whose TENTHS (with those of all ahead) it is below");
        ForgetfulRider x = Told.in("fork 4 to 3,4,5;fork 4 to 3,4;fork 4 to 3;end 1;end 1;end 1");
        for (int zero = 0; zero <= 10; zero++) {
            for (int one = 0; one <= 10 - zero; one++) {
                x.rule(4, zero, one);
                for (int draw = 0; draw < 10; draw++) {
                    int road = draw < zero ? 0 : draw < zero + one ? 1 : 2;
                    for (int fork = 0; fork < 3; fork++) {
                        x.terms(0, fork);
                        x.ride(SEED_OF_DRAW[draw]);
                        due("tenths " + zero + " " + one + " draw " + draw, x.rode(1), 3 + Math.min(road, 2 - fork));
                    }
                }
            }
        }
        ForgetfulRider y = Told.in("turn 1 by 1,2 by 2,3 by 7;end 1;end 1;end 1");
        for (int draw = 0; draw < 10; draw++) {
            y.ride(SEED_OF_DRAW[draw]);
            due("a turn, draw " + draw, y.rode(1), draw < 1 ? 1 : draw < 3 ? 2 : 3);
        }

        Told.sentence("Terms III", "At a FORK, a TURN a DRAW");
        String then = ";turn 2 by 5,3 by 5;end 1;end 1";
        way("behind a fork with one road the draw is 1", Told.in("fork 0 to 1" + then), 0, 0, 1, 2);
        way("behind a turn with one road the draw is 1", Told.in("turn 1 by 10" + then), 0, 0, 1, 2);
        way("behind an inn the draw is 5", Told.in("inn 0 to 1" + then), 0, 0, 1, 3);
    }

    private static void imagesKeep() {
        Told.sentence("Terms III", "IMAGES 0, 1 keep all but the TAPE, FAULT, the latest RIDE");
        ForgetfulRider x = Told.in("fork 3 to 1,2;turn 0 by 4,2 by 6;inn 9 to 3;end step*5 if step > 1");
        x.paint(0, 2);
        for (int what = 0; what < 4; what++) {
            x.terms(what, what + 1);
        }
        for (int look = 0; look < 6; look++) {
            x.rule(look, look, 1);
        }
        x.ride(0);
        Told.read(x, "?");
        Told.feed(x, "end");
        x.image(1);
        x.end(0);
        due("another country", Told.read(x, "inn 1 to 1;end 7;end 8;fork 5 to 0;fork 4 to 0"), 5);
        due("another fault", Told.read(x, "  ?"), -6);
        for (int what = 0; what < 4; what++) {
            x.terms(what, 9 - what);
        }
        for (int look = 0; look < 6; look++) {
            x.rule(look, 1, 9 - look);
        }
        x.terms(0, 1);
        way("another ride", x, 0, 1);
        Told.feed(x, "end 1");
        due("back", x.back(1), 0);
        due("the tape is as it is", x.count(3), 5);
        due("the fault is as it is", x.fault(), 2);
        due("the ride is as it is", x.rode(0), 1);
        due("its worth, too", x.rode(-1), 7);
        due("refusals are as they are", x.count(7), 2);
        due("the status is that of back", x.status(), 0);
        asKept(x);

        Told.sentence("Terms III", "BACK to one all that it keeps is as it was then (IMAGES stay).");
        x.paint(0, 5);
        x.terms(2, -9);
        x.rule(2, 9, 1);
        due("the tape is read", x.country(), 1);
        due("back again", x.back(1), 0);
        asKept(x);
        due("no country from the tape", x.count(3), 0);
    }

    private static void asKept(ForgetfulRider x) {
        due("places", x.count(0), 4);
        due("paint", x.of(0, 1), 2);
        due("used", x.used(), 4);
        due("roads", x.of(0, 5), 2);
        due("tenths of a turn", x.of(1, 8), 6);
        due("toll", x.of(2, 2), 9);
        due("end", x.pays(3, 2), 10);
        due("its test", x.pays(3, 1), 0);
        for (int what = 0; what < 4; what++) {
            due("term " + what, x.count(8 + what), what + 1);
        }
        for (int look = 0; look < 6; look++) {
            due("rule", x.tenths(look, 0), look);
            due("rule", x.tenths(look, 1), 1);
            due("rule", x.tenths(look, 2), 9 - look);
        }
    }

    // ---- Promises 26 to 36

    private static void visits() {
        Told.sentence("Promise 26", "Mean VISITS of a PLACE, in ten-thousandths of millionths. NOTHING.");
        ForgetfulRider x = in("turn 1 by 1,2 by 9;inn 0 to 0;end 1", 10);
        due("0, 2, 4 .. 10", x.visits(0), 11111100000L);
        due("1, 3 .. 9", x.visits(1), 1111100000L);
        due("not to be come to", Told.in("end 1;end 2").visits(1), 0);
        for (int place : new int[] {-1, 3, 15, 16, 17, LEAST, MOST}) {
            due("place " + place, x.visits(place), NOTHING);
        }
        x.terms(0, 5);
        due("lost at once", x.visits(0), 0);
        due("a place that is not there", x.visits(5), NOTHING);
        due("no places", new ForgetfulRider().visits(0), NOTHING);
    }

    private static void ends() {
        Told.sentence("Promise 27", "The chance that a RIDE ends at a PLACE (an END), LATE (place 16), LOST (17), "
                + "in ten-thousandths of millionths.");
        ForgetfulRider x = in("turn 1 by 2,9 by 3,2 by 5;end 1;inn 0 to 2;end 7", 10);
        due("end", x.ends(1), 2 * UNIT / 10);
        due("never there", x.ends(3), 0);
        due("late", x.ends(16), 5 * UNIT / 10);
        due("lost", x.ends(17), 3 * UNIT / 10);
        x.terms(1, 1);
        due("end at the day", x.ends(1), 2 * UNIT / 10);
        due("late at the day", x.ends(16), 5 * UNIT / 10);
        due("lost at the day", x.ends(17), 3 * UNIT / 10);
        x.terms(0, 15);
        due("lost at once", x.ends(17), UNIT);
        due("not late", x.ends(16), 0);
        x.terms(0, 3);
        due("there at once", x.ends(3), UNIT);
        due("lost at the first place that is not there", Told.in("inn 0 to 2;end 1").ends(17), UNIT);
        due("place 15", Told.in("inn 0 to 15;" + "end 1;".repeat(14) + "end 1").ends(15), UNIT);

        Told.sentence("Promise 27", "NOTHING (a PLACE that is no END, no PLACES, too).");
        for (int place : new int[] {-1, 0, 2, 4, 9, 15, 18, LEAST, MOST}) {
            due("place " + place, x.ends(place), NOTHING);
        }
        due("a fork", Told.in("fork 0 to 1;end 1").ends(0), NOTHING);
        for (int place : new int[] {0, 15, 16, 17}) {
            due("no places", new ForgetfulRider().ends(place), NOTHING);
        }
    }

    private static void belief() {
        Told.sentence("Promise 28", "in millionths, cut.");
        ForgetfulRider x = Told.in("fork 0 to 1;fork 0 to 2;fork 0 to 3;end 1");
        for (int school = 0; school < 2; school++) {
            due("a third", x.belief(2, school), 333333);
            due("all", Told.in("fork 0 to 0").belief(0, school), 1000000);
        }
        ForgetfulRider seldom = Told.in("turn 1 by 9,2 by 1;fork 0 to 9;turn 3 by 1,1 by 9;turn 4 by 1,1 by 9;"
                + "turn 5 by 1,1 by 9;turn 6 by 1,1 by 9;turn 7 by 1,1 by 9;turn 8 by 1,1 by 9;fork 0 to 9");
        due("a ten-millionth", seldom.belief(8, 0), 0);
        due("a ten-millionth", seldom.belief(8, 1), 0);
        due("all but a ten-millionth", seldom.belief(1, 0), 999999);
        due("all but a ten-millionth", seldom.belief(1, 1), 999999);

        Told.sentence("Promise 28", "NONE (no FORK, its LOOK is never seen, too).");
        ForgetfulRider y = Told.in(ALIKE + ";fork 3 to 0;fork 0 to 0;turn 0 by 10;inn 0 to 0");
        for (int school = 0; school < 2; school++) {
            due("never seen", y.belief(5, school), NONE);
            due("never there, but its look is seen", y.belief(6, school), 0);
            for (int place : new int[] {-1, 2, 7, 8, 9, 16, LEAST, MOST}) {
                due("place " + place, y.belief(place, school), NONE);
            }
            due("no places", new ForgetfulRider().belief(0, school), NONE);
        }
        for (int school : new int[] {-1, 2, LEAST, MOST}) {
            due("school " + school, y.belief(0, school), NONE);
        }
        y.terms(0, 15);
        due("lost at once", y.belief(0, 0), NONE);
        due("lost at once", y.belief(0, 1), NONE);
    }

    private static void bet() {
        Told.sentence("Promise 29", "GAIN of a BET on a FORK at a PRICE, in ten-thousandths of millionths. NOTHING.");
        ForgetfulRider x = Told.in(ALIKE + ";fork 3 to 0;turn 0 by 10;inn 0 to 0");
        x.rule(0, 5, 5);
        due("price 0", x.bet(1, 0), 50 * UNIT);
        due("price 1", x.bet(1, 1), 485 * UNIT / 10);
        due("price 100", x.bet(1, 100), -100 * UNIT);
        due("never seen", x.bet(5, 100), 0);
        for (int price : new int[] {-1, 101, LEAST, MOST}) {
            due("price " + price, x.bet(0, price), NOTHING);
        }
        for (int place : new int[] {-1, 2, 6, 7, 8, 16, LEAST, MOST}) {
            due("place " + place, x.bet(place, 50), NOTHING);
        }
        due("no places", new ForgetfulRider().bet(0, 0), NOTHING);
    }

    private static void price() {
        Told.sentence("Promise 30", "The greatest PRICE of a BET on a FORK by which its GAIN is not below 0. NONE (no FORK).");
        ForgetfulRider x = Told.in("fork 0 to 1;fork 0 to 2;end 1;fork 3 to 0;fork 0 to 0;turn 0 by 10;inn 0 to 0");
        due("a half", x.price(0), 50);
        due("its gain is 0", x.bet(0, 50), 0);
        due("never there", x.price(4), 0);
        due("never seen: no price has a gain below 0", x.price(3), 100);
        x.paint(1, 1);
        due("sure", x.price(0), 100);
        ForgetfulRider y = Told.in(ALIKE);
        y.rule(0, 5, 5);
        due("two thirds", y.price(0), 66);
        due("at 67 it is below 0", y.bet(0, 67), -UNIT / 2);
        for (int place : new int[] {-1, 2, 5, 6, 7, 16, LEAST, MOST}) {
            due("place " + place, x.price(place), NONE);
        }
        due("no places", new ForgetfulRider().price(0), NONE);
    }

    private static void ride() {
        Told.sentence("Promise 31", "A RIDE, kept as the latest: its last STEP. -1; -3 no PLACES.");
        ForgetfulRider none = new ForgetfulRider();
        due("no places", none.ride(0), -3);
        due("by -3", none.count(6), 1);
        due("none is kept", none.rode(0), NOTHING);
        ForgetfulRider x = in("inn 0 to 1;inn 0 to 2;end 8", 10);
        due("over at step 2", x.ride(5), 2);
        x.terms(1, 1);
        due("over at the day", x.ride(5), 1);
        x.terms(0, 2);
        due("over at once", x.ride(5), 0);
        x.terms(0, 14);
        due("lost at once", x.ride(5), 0);
        due("the latest is kept", x.rode(0), 14);
        for (int seed : new int[] {-1, 1000001, LEAST, MOST}) {
            due("seed " + seed, x.ride(seed), -1);
        }
        due("by -1", x.count(4), 4);
        due("the latest stays", x.rode(0), 14);
        due("ten steps", in("inn 0 to 0", 10).ride(0), 10);
    }

    private static void rode() {
        Told.sentence("Promise 32", "Where he was at a STEP of the latest RIDE (a PLACE that is not there, too; "
                + "step NONE: what it was worth). NOTHING.");
        ForgetfulRider x = Told.in("inn 7 to 1;inn 8 to 15;end 9");
        for (int step : new int[] {NONE, 0, 1}) {
            due("ahead of any", x.rode(step), NOTHING);
        }
        x.terms(3, 100);
        way("to where nothing is", x, 3, 0, 1, 15);
        due("lost less two tolls", x.rode(NONE), 85);
        for (int step : new int[] {-2, 3, 10, 11, LEAST, MOST}) {
            due("step " + step, x.rode(step), NOTHING);
        }
        x.terms(1, 1);
        x.terms(2, -5);
        way("late", x, 3, 0, 1);
        due("late less a toll", x.rode(NONE), -12);
        due("a step of the ride before", x.rode(2), NOTHING);
        x.terms(0, 2);
        way("an end at once", x, 3, 2);
        due("its worth", x.rode(NONE), 9);
        x.terms(2, -1);
        due("its worth then", x.rode(NONE), 9);
        x.terms(0, 1);
        x.terms(3, 7);
        x.ride(0);
        due("worth -1", x.rode(NONE), -1);
        Told.read(x, "end 4");
        due("it stays in another country", x.rode(1), 15);
        ForgetfulRider day = in("inn 0 to 1;inn 0 to 0", 10);
        way("eleven places", day, 0, 0, 1, 0, 1, 0, 1, 0, 1, 0, 1, 0);
        due("no twelfth", day.rode(11), NOTHING);
    }

    private static void imageAndBack() {
        Told.sentence("Promise 33", "IMAGE k is kept: 0; -1.");
        ForgetfulRider x = Told.in("end 1");
        due("image 0", x.image(0), 0);
        Told.read(x, "end 2");
        due("image 1", x.image(1), 0);
        for (int k : new int[] {-1, 2, LEAST, MOST}) {
            due("image " + k, x.image(k), -1);
        }
        due("by -1", x.count(4), 4);
        x.back(0);
        due("they are apart", x.pays(0, 0), 1);
        Told.read(x, "end 3");
        due("image 0 again", x.image(0), 0);
        x.back(1);
        due("the other stays", x.pays(0, 0), 2);
        x.back(0);
        due("kept anew", x.pays(0, 0), 3);

        Told.sentence("Promise 34", "BACK to IMAGE k: 0. -1; -2 it was not kept.");
        due("back 0", x.back(0), 0);
        for (int k : new int[] {-1, 2, LEAST, MOST}) {
            due("back " + k, x.back(k), -1);
        }
        due("by -1", x.count(4), 8);
        ForgetfulRider y = new ForgetfulRider();
        due("0 was not kept", y.back(0), -2);
        due("1 was not kept", y.back(1), -2);
        y.image(2);
        due("nor by a refused call", y.back(1), -2);
        due("by -2", y.count(5), 3);
        due("an image of no country", y.image(1), 0);
        Told.read(y, ALIKE);
        due("0 was still not kept", y.back(0), -2);
        due("the country stays", y.count(0), 5);
        due("back to no country", y.back(1), 0);
        due("no places", y.count(0), 0);
        due("no worth", y.worth(), NOTHING);
    }

    private static void count() {
        Told.sentence("Promise 35", "0 PLACES, 1 FORKS, 2 LOOKS that are USED, 3 bytes of the TAPE");
        ForgetfulRider x = new ForgetfulRider();
        int[] atFirst = {0, 0, 0, 0, 0, 0, 0, 0, 0, 10, 0, 0};
        for (int what = 0; what < 12; what++) {
            due("new, " + what, x.count(what), atFirst[what]);
        }
        Told.read(x, "fork 0 to 1" + ";fork 5 to 1;fork 1 to 2".repeat(5) + ";inn 1 to 1;turn 1 by 10;end 1;fork 5 to 1;end 2");
        due("places", x.count(0), 16);
        due("forks", x.count(1), 12);
        due("looks", x.count(2), 3);
        Told.feed(x, "?".repeat(400));
        due("bytes", x.count(3), 400);
        x.end(1);
        due("bytes", x.count(3), 1);

        Told.sentence("Promise 35", "4 .. 7 how many calls were REFUSED by -1, -2, -3, -6 (IMAGES do not keep that)");
        x.image(0);
        x.terms(0, 16);
        x.image(1);
        x.paint(16, 0);
        x.paint(16, 1);
        x.paint(11, 0);
        x.paint(12, 0);
        x.paint(13, 0);
        for (int i = 0; i < 4; i++) {
            x.country();
        }
        for (int k = 0; k < 2; k++) {
            x.back(k);
            for (int what = 4; what < 8; what++) {
                due("refused, " + what, x.count(what), what - 3);
            }
        }

        Told.sentence("Promise 35", "8 .. 11 TERMS 0 .. 3");
        for (int what = 0; what < 4; what++) {
            x.terms(what, 5 + what);
            due("term " + what, x.count(8 + what), 5 + what);
        }
        x.terms(2, -999);
        due("below 0", x.count(10), -999);

        Told.sentence("Promise 35", "-1000 for others.");
        for (int what : new int[] {-1, 12, 13, -1000, LEAST, MOST}) {
            due("count " + what, x.count(what), -1000);
        }
    }

    private static void status() {
        Told.sentence("Promise 36", "What the latest call of country, terms, paint, rule, follow, cast, ride, image, back "
                + "was REFUSED by; 0 if it was not, or ahead of any.");
        ForgetfulRider x = new ForgetfulRider();
        due("ahead of any", x.status(), 0);
        for (int call = 0; call < 9; call++) {
            due("call " + call, refused(x, call), x.status());
            due("it is refused", x.status() < 0 ? 1 : 0, 1);
            askAll(x);
            due("questions leave it", x.status() < 0 ? 1 : 0, 1);
        }
        ForgetfulRider y = Told.in(ALIKE);
        for (int call = 0; call < 9; call++) {
            refused(y, (call + 1) % 9);
            due("refused", y.status() < 0 ? 1 : 0, 1);
            Told.feed(y, call == 0 ? ALIKE : "");
            due("granted " + call, granted(y, call) >= 0 ? 1 : 0, 1);
            due("0 behind call " + call, y.status(), 0);
            askAll(y);
            due("questions leave it", y.status(), 0);
        }
        int[] want = {-6, -1, -2, -1, -3, -3, -3, -1, -2};
        for (int call = 0; call < 9; call++) {
            due("without a country, call " + call, refused(new ForgetfulRider(), call), want[call]);
        }
        ForgetfulRider z = new ForgetfulRider();
        due("-1 for a number", z.ride(-1) + z.status(), -2);
        due("-1 for a number", z.cast(64) + z.status(), -2);
        due("-1 for a number", z.paint(0, 6) + z.status(), -2);
        due("-1 for a number", z.back(2) + z.status(), -2);
    }

    private static int refused(ForgetfulRider x, int call) {
        switch (call) {
            case 0: return x.country();
            case 1: return x.terms(4, 0);
            case 2: return x.paint(15, 0);
            case 3: return x.rule(0, 10, 1);
            case 4: return x.count(0) == 0 ? x.follow() : x.cast(64);
            case 5: return x.count(0) == 0 ? x.cast(0) : x.cast(-1);
            case 6: return x.count(0) == 0 ? x.ride(0) : x.ride(-1);
            case 7: return x.image(2);
            default: return x.back(1);
        }
    }

    private static int granted(ForgetfulRider x, int call) {
        switch (call) {
            case 0: return x.country();
            case 1: return x.terms(1, 10);
            case 2: return x.paint(0, 0);
            case 3: return x.rule(0, 10, 0);
            case 4: return x.follow();
            case 5: return x.cast(0);
            case 6: return x.ride(0);
            case 7: return x.image(0);
            default: return x.back(0);
        }
    }

    /** Calls that are never refused, with numbers that can't be, and others. */
    private static void askAll(ForgetfulRider x) {
        int[] counts = {x.count(4), x.count(5), x.count(6), x.count(7)};
        for (int i = -1; i < 2; i++) {
            x.end(-1);
            x.fault();
            x.of(i, i);
            x.pays(i, i);
            x.used();
            x.tenths(i, i);
            x.worth();
            x.from(i, i);
            x.plain(i);
            x.road(i);
            x.die(i, i);
            x.power(i, i);
            x.pocket();
            x.knowing();
            x.knows(i, i);
            x.signs(i, i, i);
            x.signed(i);
            x.visits(i);
            x.ends(i);
            x.belief(i, i);
            x.bet(i, i);
            x.price(i);
            x.rode(i);
            x.count(i);
        }
        due("a full tape", fillTape(x), NONE);
        x.end(0);
        for (int i = 0; i < 4; i++) {
            due("questions are not counted, " + i, x.count(4 + i), counts[i]);
        }
    }

    private static int fillTape(ForgetfulRider x) {
        for (int i = 0; i < 20; i++) {
            x.feed(0, 0, 0, 0, 0);
        }
        return x.feed(0, 0, 0, 0, 0);
    }

    private static void refusedLeavesAll() {
        Told.sentence("Promise 36", "was REFUSED by");
        ForgetfulRider x = Told.in(ALIKE);
        x.rule(0, 4, 6);
        x.terms(2, 77);
        x.ride(9);
        x.image(0);
        long all = all(x);
        for (int call = 0; call < 9; call++) {
            refused(x, call);
            due("all is as it was behind call " + call, all(x), all);
        }
        x.paint(2, 3);
        x.paint(0, -1);
        x.terms(1, 0);
        x.rule(9, 1, 1);
        x.back(-1);
        due("all is as it was", all(x), all);
    }

    private static void manyCalls() {
        Told.sentence("What it is", "An object is used for at most 512 calls after it has been made");
        ForgetfulRider x = new ForgetfulRider();
        for (int i = 0; i < 127; i++) {
            x.feed(0x656e6420, 0x39202020, 0x20202020, 0x20202020, 0x20202020);
            due("country", x.country(), 1);
            x.image(i % 2);
            x.terms(4, i);
        }
        due("the 509th call", x.count(4), 127);
        due("the 510th", x.back(1), 0);
        due("the 511th", x.ride(1000000), 0);
        due("the 512th", x.worth(), 9 * UNIT);
    }

    /** One number that tells states apart: what can be asked for, put together. */
    private static long all(ForgetfulRider x) {
        long sum = x.count(0) * 31L + x.used();
        for (int what = 8; what < 12; what++) {
            sum = sum * 1000003 + x.count(what);
        }
        for (int i = 0; i < 18; i++) {
            sum = sum * 1000003 + x.tenths(i / 3, i % 3) + 7 * x.of(i / 3, i % 3);
        }
        for (int step = -1; step < 11; step++) {
            sum = sum * 1000003 + x.rode(step);
        }
        return sum * 1000003 + x.worth();
    }
}
