import java.io.IOException;

/** The document's edges, sentence by sentence: "Terms" I, and promises 1 to 8. */
public final class EdgesOfTextTest {
    private static final long NOTHING = ForgetfulRider.NOTHING;
    private static final int NONE = ForgetfulRider.NONE;
    private static final int LEAST = Integer.MIN_VALUE;
    private static final int MOST = Integer.MAX_VALUE;
    private static final String SIXTEEN = "end 1" + ";end 1".repeat(15);
    private static final String FIFTY = "end 1" + "+1".repeat(49);
    private static final String BILLION = "1000*1000*1000";

    /** With the document's path: whether the sentences are still its words, too. */
    public static void main(String[] args) throws IOException {
        tape();
        tokens();
        places();
        looksAndRoads();
        tenthsOfTurns();
        numbers();
        parts();
        brackets();
        firstFault();
        broken();
        onlyIfItMatters();
        worthOfAnEnd();
        refusedInOrder();
        newObject();
        feed();
        end();
        country();
        fault();
        terms();
        of();
        pays();
        Told.finishSentences("EdgesOfTextTest", 1, 8, args);
    }

    private static void due(String call, long got, long want) {
        Told.due(call, got, want);
    }

    // ---- Terms I

    private static void tape() {
        Told.sentence("Terms I", "A COUNTRY is a TEXT on a TAPE of at most 400 bytes");
        Told.reads("end 7" + " ".repeat(395), 1);
        Told.reads(" ".repeat(395) + "end 7", 1);
        due("the last byte counts", Told.in(" ".repeat(395) + "end 7").pays(0, 0), 7);
        Told.fault(" ".repeat(397) + "end", 400);
        Told.fault(" ".repeat(399) + "?", 399);

        Told.sentence("Terms I", "(none at first: no PLACES)");
        ForgetfulRider x = new ForgetfulRider();
        due("count", x.count(0), 0);
        due("of", x.of(0, 0), NONE);
    }

    private static void tokens() {
        Told.sentence("Terms I", "TOKENS: longest rows of letters a .. z, of digits, single other bytes, "
                + "any blanks (32) between.");
        Told.reads("end1if1=1or2=2;fork0to0", 2);
        Told.reads("   end   1   if   1   =   1   ;   fork   0   to   0   ", 2);
        Told.fault("endif 1", 0);
        Told.fault("en d 1", 0);
        Told.fault("end st ep", 4);
        Told.fault("end 1 2", 6);
        Told.fault("end step step", 9);
        Told.fault("end 1 if 1=1 orr 1=1", 13);
        Told.fault("fork 0 to 1,,2", 12);
        String[] words = {"fork", "to", "turn", "by", "inn", "end", "if", "or", "and", "not", "step", "place", "day"};
        String all = "fork 0 to 0 ; turn 0 by 10 ; inn 0 to 0 ; end step if not 1 = place or 1 = day and 1 = 1";
        Told.reads(all, 4);
        for (String word : words) {
            int at = (all + " ").indexOf(word + " ");
            for (int i = 0; i < word.length(); i++) {
                Told.fault(all.substring(0, at + i) + "x" + all.substring(at + i + 1), at);
            }
        }
        due("a row of digits is one number", Told.in("end 123").pays(0, 0), 123);
        for (int b = 0; b < 256; b++) {
            String text = "end step" + (char) b;
            if (b == ' ') {
                Told.reads(text, 1);
            } else {
                boolean letter = b >= 'a' && b <= 'z';
                Told.fault(text, letter ? 4 : "+-*/;".indexOf(b) >= 0 ? 9 : 8);
            }
            boolean digit = b >= '0' && b <= '9';
            if (b == ' ' || digit) {
                Told.reads("end 7" + (char) b, 1);
            } else {
                Told.fault("end 7" + (char) b, "+-*/;".indexOf(b) >= 0 ? 6 : 5);
            }
            Told.fault((char) b + "end", b == ' ' ? 4 : 0);
        }
    }

    private static void places() {
        Told.sentence("Terms I", "16 at most (FAULT at the 17th's first TOKEN)");
        Told.reads(SIXTEEN.substring(6), 15);
        Told.reads(SIXTEEN, 16);
        Told.fault(SIXTEEN + ";", SIXTEEN.length() + 1);
        Told.fault(SIXTEEN + ";  ", SIXTEEN.length() + 3);
        Told.fault(SIXTEEN + ";  end 1", SIXTEEN.length() + 3);
        Told.fault(SIXTEEN + ";fork 0 to 0", SIXTEEN.length() + 1);
        Told.fault(SIXTEEN + " ; ;", SIXTEEN.length() + 3);

        Told.sentence("Terms I", "numbered 0, 1 ..");
        ForgetfulRider x = Told.in("inn 3 to 1;end 5;" + "end place;".repeat(13) + "end place");
        due("place 0", x.of(0, 2), 3);
        due("place 1", x.pays(1, 0), 5);
        due("place 2", x.pays(2, 0), 2);
        due("place 15", x.pays(15, 0), 15);
    }

    private static void looksAndRoads() {
        Told.sentence("Terms I", "LOOK 0 .. 5");
        Told.reads("fork 0 to 1;fork 5 to 1", 2);
        Told.fault("fork 6 to 1", 5);
        Told.fault("fork -1 to 1", 5);
        Told.fault("fork 4294967296 to 1", 5);
        Told.fault("fork to 1", 5);

        Told.sentence("Terms I", "ROAD 0 .. 15 (a PLACE, also one that is not there)");
        Told.reads("fork 0 to 0,15,15;turn 0 by 4,15 by 6;inn 1 to 15;inn 1 to 0", 4);
        Told.fault("fork 0 to 16", 10);
        Told.fault("fork 0 to 15,16", 13);
        Told.fault("fork 0 to 15,15,16", 16);
        Told.fault("turn 16 by 10", 5);
        Told.fault("turn 15 by 5,16 by 5", 13);
        Told.fault("inn 1 to 16", 9);
        Told.fault("inn 1 to 4294967296", 9);

        Told.sentence("Terms I", "3 ROADS at most (FAULT at the 4th's \",\")");
        Told.reads("fork 0 to 1,2,3", 1);
        Told.fault("fork 0 to 1,2,3,4", 15);
        Told.fault("fork 0 to 1,2,3 ,", 16);
        Told.reads("turn 1 by 1,2 by 2,3 by 7", 1);
        Told.fault("turn 1 by 1,2 by 2,3 by 7,4 by 1", 25);
        Told.fault("turn 1 by 1,2 by 2,3 by 3,4 by 4", 25);
        Told.fault("inn 1 to 1,2", 10);

        Told.sentence("Terms I", "TOLL 0 .. 99");
        Told.reads("inn 0 to 0;inn 99 to 0", 2);
        Told.fault("inn 100 to 0", 4);
        Told.fault("inn -1 to 0", 4);
        Told.fault("inn 4294967296 to 0", 4);
    }

    private static void tenthsOfTurns() {
        Told.sentence("Terms I", "TENTHS 1 .. 10");
        Told.reads("turn 1 by 10", 1);
        Told.reads("turn 1 by 1,2 by 9", 1);
        Told.reads("turn 1 by 1,2 by 1,3 by 8", 1);
        Told.fault("turn 1 by 0,2 by 10", 10);
        Told.fault("turn 1 by 10,2 by 0", 18);
        Told.fault("turn 1 by 11", 10);
        Told.fault("turn 1 by 4294967306", 10);

        Told.sentence("Terms I", "together 10 (FAULT at those with which they pass 10,");
        Told.reads("turn 1 by 5,2 by 5", 1);
        Told.fault("turn 1 by 5,2 by 6", 17);
        Told.fault("turn 1 by 10,2 by 1", 18);
        Told.fault("turn 1 by 4,2 by 4,3 by 3", 24);
        Told.fault("turn 1 by 10,2 to 1", 15);

        Told.sentence("Terms I", "or at what comes behind the last ones if they are fewer)");
        Told.fault("turn 1 by 9", 11);
        Told.fault("turn 1 by 9  ", 13);
        Told.fault("turn 1 by 9 ;end 1", 12);
        Told.fault("turn 1 by 9 end 1", 12);
        Told.fault("turn 1 by 4,2 by 5;end 1", 18);
        Told.fault("turn 1 by 3,2 by 3,3 by 3", 25);
        Told.fault("turn 1 by 3,2 by 3,3 by 3;end 1", 25);
    }

    private static void numbers() {
        Told.sentence("Terms I", "NUMBER (to 1,000)");
        Told.reads("end 0;end 1000 if 1000=1000", 2);
        Told.fault("end 1001", 4);
        Told.fault("end 1 if 1001=1", 9);
        Told.fault("end 1+1001", 6);
        Told.fault("end 4294967297", 4);
        Told.fault("end 18446744073709551617", 4);
        Told.fault("end " + "9".repeat(396), 4);
        Told.reads("end " + "0".repeat(392) + "1000", 1);
    }

    private static void parts() {
        Told.sentence("Terms I", "50 PARTS that are NUMBERS and words (FAULT at the 51st)");
        Told.reads(FIFTY, 1);
        Told.fault(FIFTY + "+1", FIFTY.length() + 1);
        Told.fault(FIFTY + " + step", FIFTY.length() + 3);
        Told.fault(FIFTY + "+[1]", FIFTY.length() + 2);
        Told.fault(FIFTY + " if 1=1", FIFTY.length() + 4);
        Told.fault(FIFTY + ";end day", FIFTY.length() + 5);
        Told.reads(FIFTY + ";fork 0 to 1,2,3;turn 1 by 10;inn 9 to 9", 4);
        for (String word : new String[] {"step", "place", "day"}) {
            String words = "end " + word + ("+" + word).repeat(49);
            Told.reads(words, 1);
            Told.fault(words + "+" + word, words.length() + 1);
        }
        String bracketed = "end [[1]]" + "+[1]".repeat(48);
        Told.reads(bracketed + "+[[[1]]]", 1);
        Told.fault(bracketed + " if (1=1)", bracketed.length() + 7);
        ForgetfulRider x = new ForgetfulRider();
        due("51", Told.read(x, FIFTY + "+1"), -6);
        due("the next text begins anew", Told.read(x, FIFTY), 1);
        due("and the next", Told.read(x, FIFTY), 1);
        due("all of them are told", x.pays(0, 0), 50);
    }

    private static void brackets() {
        Told.sentence("Terms I", "8 brackets of both kinds within one another (FAULT at the 9th) at most");
        Told.reads("end " + "[".repeat(8) + "1" + "]".repeat(8), 1);
        Told.fault("end " + "[".repeat(9) + "1" + "]".repeat(9), 12);
        Told.reads("end 1 if " + "(".repeat(8) + "1=1" + ")".repeat(8), 1);
        Told.fault("end 1 if " + "(".repeat(9) + "1=1" + ")".repeat(9), 17);
        for (int round = 1; round < 8; round++) {
            String ahead = "end 1 if " + "(".repeat(round);
            String square = "[".repeat(8 - round) + "1" + "]".repeat(8 - round);
            Told.reads(ahead + square + "=" + square + ")".repeat(round), 1);
            Told.fault(ahead + "[" + square + "]=1" + ")".repeat(round), 17);
            Told.fault(ahead + "1=[" + square + "]" + ")".repeat(round), 19);
        }
        Told.fault("end 1 if " + "(".repeat(8) + "not (", 21);
        String eight = "[".repeat(8) + "1" + "]".repeat(8);
        Told.reads("end " + eight + "+" + eight + " if " + eight + "=" + eight, 1);
    }

    private static void firstFault() {
        Told.sentence("Terms I", "FAULT: the first TOKEN that can't go on there (the end's: the TEXT's length)");
        String[] texts = {
            "fork 0 to 1 , 2 , 3 ; end 1", "turn 1 by 2 , 2 by 3 , 3 by 5 ; end 1", "inn 5 to 1 ; end 1",
            "end 1 + step * [ 2 - place ] / 3 if not ( 1 < 2 or 2 > 1 and day = 3 ) or 1 = [ 1 ] ; end 1"};
        for (String text : texts) {
            Told.reads(text, 2);
            String ahead = "";
            for (String token : text.split(" ")) {
                ahead += token;
                Told.fault(ahead + " ?", ahead.length() + 1);
                if (Grammar.fault(ahead) != -1) {
                    Told.fault(ahead, ahead.length());
                    Told.fault(ahead + "  ", ahead.length() + 2);
                }
                ahead += " ";
            }
        }
        Told.fault("end 1 lake ? end", 6);
        Told.fault("end (1)", 4);
        Told.fault("end 1 if (1)", 11);
        Told.fault("end 1 if [1=1]", 11);
        Told.fault("end 1 if (1=1]", 13);
        Told.fault("end [1)", 6);
        Told.fault("end 1 if 1=1=1", 12);
        Told.fault("end 1 if 1=not 1", 11);
        Told.fault("end 1 and 1=1", 6);
        Told.fault("end -1", 4);
    }

    private static void broken() {
        Told.sentence("Terms I", "Beyond 1,000,000,000 either way");
        Told.pays(BILLION + "-999*1000*1000-999*1000-998", 0, 10, 2);
        Told.pays("5+" + BILLION + "-" + BILLION, 0, 10, 0);
        Told.pays("1+" + BILLION + "-" + BILLION, 0, 10, 0);
        Told.pays("0+" + BILLION + "-" + BILLION + "+5", 0, 10, 5);
        Told.pays("0-" + BILLION + "+" + BILLION + "+5", 0, 10, 5);
        Told.pays("0-" + BILLION + "-1+" + BILLION + "+5", 0, 10, 0);
        Told.pays(BILLION + "*1/1000/1000/1000", 0, 10, 1);
        Told.pays(BILLION + "*2/1000/1000/1000", 0, 10, 0);
        Told.pays("[0-" + BILLION + "]*2/1000/1000/1000", 0, 10, 0);
        Told.pays("[0-1000]*1000*1000/1000/1000/1000", 0, 10, -1);
        Told.pays("5+1000" + "*1000".repeat(10), 0, 10, 0);
        Told.pays("5+1000" + "*1000".repeat(21), 0, 10, 0);
        Told.pays("5 if " + BILLION + ">0", 0, 10, 5);
        Told.pays("5 if 1+" + BILLION + ">0", 0, 10, 0);
        Told.pays("5 if 0<1+" + BILLION, 0, 10, 0);
        Told.pays("5 if not 1+" + BILLION + ">0", 0, 10, 0);
        Told.pays("5 if not 1+" + BILLION + "<0", 0, 10, 0);
        Told.pays("5 if 0-" + BILLION + "<0", 0, 10, 5);
        Told.pays("5 if 0-1-" + BILLION + "<0", 0, 10, 0);

        Told.sentence("Terms I", "or divided by 0, a SUM, a TEST is BROKEN");
        Told.pays("5+1/0", 0, 10, 0);
        Told.pays("5+0/0", 0, 10, 0);
        Told.pays("5+0/1", 0, 10, 5);
        Told.pays("5+1/step", 0, 10, 0);
        Told.pays("5+1/step", 1, 10, 6);
        Told.pays("5+0*[1/0]", 0, 10, 0);
        Told.pays("5 if 1/0=1/0", 0, 10, 0);
        Told.pays("5 if not 1/0=1", 0, 10, 0);
        Told.pays("5 if not (not 1/0=1)", 0, 10, 0);
        Told.pays("5 if not 7=7", 0, 10, 0);
        Told.pays("5 if not 7=8", 0, 10, 5);
        Told.pays("5 if not (not 7=7)", 0, 10, 5);
        Told.pays("5 if not (not 7=8)", 0, 10, 0);
        Told.pays("5 if (1/0=1) or 1=1", 0, 10, 0);

        Told.sentence("Terms I", "/ is cut towards 0");
        Told.pays("7/2", 0, 10, 3);
        Told.pays("[0-7]/2", 0, 10, -3);
        Told.pays("7/[0-2]", 0, 10, -3);
        Told.pays("[0-7]/[0-2]", 0, 10, 3);
        Told.pays("5+[0-1]/2", 0, 10, 5);
    }

    private static void onlyIfItMatters() {
        Told.sentence("Terms I", "(\"or\", \"and\" ask what stands behind only if it can still matter)");
        Told.pays("5 if 1=1 or 1/0=1", 0, 10, 5);
        Told.pays("5 if 1=0 or 1/0=1", 0, 10, 0);
        Told.pays("5 if 1/0=1 or 1=1", 0, 10, 0);
        Told.pays("5 if 1=1 or 1/0=1 or 1/0=1", 0, 10, 5);
        Told.pays("5 if 1=0 or 1=1 or 1/0=1", 0, 10, 5);
        Told.pays("5 if 1=0 or 1/0=1 or 1=1", 0, 10, 0);
        Told.pays("5 if not (1=0 and 1/0=1)", 0, 10, 5);
        Told.pays("5 if not (1=1 and 1/0=1)", 0, 10, 0);
        Told.pays("5 if not (1/0=1 and 1=0)", 0, 10, 0);
        Told.pays("5 if not (1=1 and 1=0 and 1/0=1)", 0, 10, 5);
        Told.pays("5 if 1=0 and 1/0=1 or 1=1", 0, 10, 5);
        Told.pays("5 if 7=8 or 1/0=1", 0, 10, 0);
        Told.pays("5 if 8=8 or 1/0=1", 0, 10, 5);
        Told.pays("5 if not (7=8 and 1/0=1)", 0, 10, 5);
        Told.pays("5 if not (8=8 and 1/0=1)", 0, 10, 0);
        Told.pays("5 if 1=1 or 1=1 and 1/0=1", 0, 10, 5);
        Told.pays("5 if (1=1 or 1/0=1) and 1=1", 0, 10, 5);
        Told.pays("5 if (1=1 or 1/0=1) and 1/0=1", 0, 10, 0);
    }

    private static void worthOfAnEnd() {
        Told.sentence("Terms I", "(of the STEP at which he comes, the PLACE, the DAY)");
        Told.pays("step", 0, 10, 0);
        Told.pays("step", 10, 10, 10);
        Told.pays("place", 10, 10, 1);
        Told.pays("day", 3, 1, 1);
        ForgetfulRider x = Told.in("inn 0 to 2;end 0;inn 0 to 3;end step*100+place*10+day");
        x.terms(1, 4);
        due("two steps, place 3, of 4", x.worth(), 234 * 10_000_000_000L);

        Told.sentence("Terms I", "-999 .. 999 (else the nearest)");
        Told.pays("998", 0, 10, 998);
        Told.pays("999", 0, 10, 999);
        Told.pays("1000", 0, 10, 999);
        Told.pays(BILLION, 0, 10, 999);
        Told.pays("0-998", 0, 10, -998);
        Told.pays("0-999", 0, 10, -999);
        Told.pays("0-1000", 0, 10, -999);
        Told.pays("0-" + BILLION, 0, 10, -999);

        Told.sentence("Terms I", "if its \"if\" (if it has one) is so, and neither is BROKEN; else 0");
        Told.pays("5", 0, 10, 5);
        Told.pays("5 if 1=1", 0, 10, 5);
        Told.pays("5 if 1=2", 0, 10, 0);
        Told.pays("0-5 if 1=2", 0, 10, 0);
        Told.pays("1/0", 0, 10, 0);
        Told.pays("1/0 if 1=1", 0, 10, 0);
        Told.pays("1/0 if 1=2", 0, 10, 0);
        Told.pays("5 if 1/0=1", 0, 10, 0);
        Told.pays("1/0 if 1/0=1", 0, 10, 0);
        Told.pays("5 if step<2", 1, 10, 5);
        Told.pays("5 if step<2", 2, 10, 0);
        Told.pays("5 if step>2", 2, 10, 0);
        Told.pays("5 if step>2", 3, 10, 5);
    }

    private static void refusedInOrder() {
        Told.sentence("Terms I", "The first of these in that order.");
        ForgetfulRider x = new ForgetfulRider();
        due("-1 ahead of -2: paint", x.paint(0, 6), -1);
        due("-1 ahead of -2: back", x.back(2), -1);
        due("-1 ahead of -3: cast", x.cast(64), -1);
        due("-1 ahead of -3: ride", x.ride(1000001), -1);
        x = Told.in("end 1");
        due("-1 ahead of -3: paint", x.paint(0, 6), -1);
        due("-2 ahead of -3: paint", x.paint(1, 0), -2);
        due("-3: paint", x.paint(0, 0), -3);
    }

    // ---- Promises 1 to 8

    private static void newObject() {
        Told.sentence("Promise 1", "No COUNTRY.");
        ForgetfulRider x = new ForgetfulRider();
        due("places", x.count(0), 0);
        due("forks", x.count(1), 0);
        due("looks", x.count(2), 0);
        due("used", x.used(), 0);
        due("of", x.of(0, 3), NONE);
        due("pays", x.pays(0, 0), NOTHING);
        due("worth", x.worth(), NOTHING);
    }

    private static void feed() {
        Told.sentence("Promise 2", "Twenty bytes come behind the TAPE, four of each number, the highest first");
        ForgetfulRider x = new ForgetfulRider();
        due("first", x.feed(0x656e6420, 0x312b322b, 0x332b342b, 0x352b362b, 0x372b382b), 20);
        due("second", x.feed(0x392b3130, 0x2b313120, 0x20202020, 0x20202020, 0x20202020), 40);
        due("country", x.country(), 1);
        due("end 1+2+3+4+5+6+7+8+9+10+11", x.pays(0, 0), 66);
        x.feed(0x656e6420, 0x3720e920, 0x20202020, 0x20202020, 0x20202020);
        due("a byte above 127", x.country(), -6);
        due("where it is", x.fault(), 6);
        x.feed(-1, -1, -1, -1, -1);
        due("no byte is a letter", x.country(), -6);
        due("where it is", x.fault(), 0);

        Told.sentence("Promise 2", "how many it has");
        for (int bytes = 20; bytes <= 400; bytes += 20) {
            due("feed", x.feed(MOST, LEAST, 0, -1, 1), bytes);
            due("count", x.count(3), bytes);
        }

        Told.sentence("Promise 2", "NONE, if there would be more than 400.");
        due("feed to 420", x.feed(0, 0, 0, 0, 0), NONE);
        due("bytes stay", x.count(3), 400);
        x.end(381);
        due("feed to 401", x.feed(0, 0, 0, 0, 0), NONE);
        due("bytes stay", x.count(3), 381);
        x.end(380);
        due("feed to 400", x.feed(0, 0, 0, 0, 0), 400);
        x.end(0);
        Told.feed(x, " ".repeat(390) + "end 7");
        due("feed to 415", x.feed(0x3f3f3f3f, 0x3f3f3f3f, 0x3f3f3f3f, 0x3f3f3f3f, 0x3f3f3f3f), NONE);
        due("nothing of it came", x.end(396), NONE);
        due("what was there is there", x.country(), 1);
    }

    private static void end() {
        Told.sentence("Promise 3", "The TAPE has its first n bytes alone: n.");
        ForgetfulRider x = new ForgetfulRider();
        due("of none 0", x.end(0), 0);
        Told.feed(x, "end 123");
        due("all", x.end(7), 7);
        due("all stay", x.count(3), 7);
        due("five", x.end(5), 5);
        due("five stay", x.count(3), 5);
        due("country", x.country(), 1);
        due("cut", x.pays(0, 0), 1);
        Told.feed(x, "end 123");
        x.end(4);
        Told.feed(x, "9");
        due("feed goes on there", x.country(), 1);
        due("what came behind", x.pays(0, 0), 9);

        Told.sentence("Promise 3", "NONE, if it has not so many, or n is below 0.");
        due("1 of none", x.end(1), NONE);
        Told.feed(x, "end 123");
        due("8 of 7", x.end(8), NONE);
        due("most", x.end(MOST), NONE);
        due("-1", x.end(-1), NONE);
        due("least", x.end(LEAST), NONE);
        due("bytes stay", x.count(3), 7);
        x.end(5);
        due("those cut do not come back", x.end(7), NONE);
        due("it is not refused", x.count(4) + x.status(), 0);
    }

    private static void country() {
        Told.sentence("Promise 4", "The TAPE, which is empty then, becomes the COUNTRY: how many PLACES.");
        ForgetfulRider x = new ForgetfulRider();
        due("one", Told.read(x, "end 1"), 1);
        due("tape", x.count(3), 0);
        due("sixteen", Told.read(x, SIXTEEN), 16);
        due("tape", x.count(3), 0);
        due("places", x.count(0), 16);
        due("two", Told.read(x, "fork 2 to 1;end 5"), 2);
        due("those before are gone", x.of(2, 0), NONE);
        Told.read(x, "inn 99 to 0;fork 3 to 0,0,0;turn 0 by 3,0 by 7");
        due("three", Told.read(x, "fork 0 to 1;end 5;turn 1 by 10"), 3);
        due("no toll of those before", x.worth(), 50_000_000_000L);
        due("no roads of those before", x.of(1, 3), 0);
        due("no tenths of those before", x.of(2, 8), NONE);
        for (int i = 0; i < 12; i++) {
            due("as much room for each", Told.read(x, FIFTY), 1);
            due("as much room for each", x.pays(0, 0), 50);
        }
        Told.read(x, "fork 2 to 1;end 5");
        due("no text", Told.read(x, "lake"), -6);
        due("tape, too", x.count(3), 0);

        Told.sentence("Promise 4", "-6 (blanks alone: FAULT at the end; the one before stays).");
        x.paint(0, 4);
        due("no byte", x.country(), -6);
        due("fault", x.fault(), 0);
        due("one blank", Told.read(x, " "), -6);
        due("fault", x.fault(), 1);
        due("400 blanks", Told.read(x, " ".repeat(400)), -6);
        due("fault", x.fault(), 400);
        due("all but the last token", Told.read(x, SIXTEEN + ";"), -6);
        due("places stay", x.count(0), 2);
        due("paint stays", x.of(0, 1), 4);
        due("ends stay", x.pays(1, 0), 5);
        due("worth stays", x.worth(), 50_000_000_000L);
        due("refused", x.count(7), 5);
    }

    private static void fault() {
        Told.sentence("Promise 5", "FAULT of the latest country(): its place; NONE without.");
        ForgetfulRider x = new ForgetfulRider();
        due("ahead of any", x.fault(), NONE);
        Told.read(x, "end 1;lake");
        due("its place", x.fault(), 6);
        Told.feed(x, "end 1");
        x.end(99);
        due("stays till the next", x.fault(), 6);
        x.country();
        due("without", x.fault(), NONE);
        Told.read(x, "?");
        due("at 0", x.fault(), 0);
        Told.read(x, " ?");
        due("at 1", x.fault(), 1);
    }

    private static void terms() {
        Told.sentence("Terms I", "TERMS: 0 START 0 .. 15 (0 at first), 1 DAY 1 .. 10 (10), "
                + "2 LATE -999 .. 999 (0), 3 LOST -999 .. 999 (0).");
        int[] first = {0, 10, 0, 0};
        int[] least = {0, 1, -999, -999};
        int[] most = {15, 10, 999, 999};
        ForgetfulRider x = new ForgetfulRider();
        for (int what = 0; what < 4; what++) {
            due("at first", x.count(8 + what), first[what]);
            due("least", x.terms(what, least[what]), first[what]);
            due("most", x.terms(what, most[what]), least[what]);
            due("below", x.terms(what, least[what] - 1), -1);
            due("above", x.terms(what, most[what] + 1), -1);
            due("far below", x.terms(what, LEAST), -1);
            due("far above", x.terms(what, MOST), -1);
            due("stays", x.count(8 + what), most[what]);
        }

        Told.sentence("Promise 6", "A TERM: what it was. -1.");
        due("it was 999", x.terms(3, 5), 999);
        due("what -1", x.terms(-1, 1), -1);
        due("what 4", x.terms(4, 1), -1);
        due("what least", x.terms(LEAST, 1), -1);
        due("what most", x.terms(MOST, 1), -1);
        due("refused", x.count(4), 20);
        x.terms(3, -1);
        due("it was -1", x.terms(3, 0), -1);
        due("that is no refusal", x.status(), 0);
    }

    private static void of() {
        Told.sentence("Promise 7", "Of a PLACE 0 its kind (0 FORK, 1 TURN, 2 INN, 3 END), 1 LOOK (FORK), 2 TOLL (INN), "
                + "3 how many ROADS, 4 .. 6 ROADS 0 .. 2, 7 .. 9 TENTHS of these (TURN). NONE.");
        ForgetfulRider x = Told.in("fork 5 to 1,2,15;fork 1 to 9;turn 4 by 1,5 by 2,6 by 7;turn 7 by 10;inn 99 to 8;end 1");
        int[][] want = {
            {0, 5, NONE, 3, 1, 2, 15, NONE, NONE, NONE},
            {0, 1, NONE, 1, 9, NONE, NONE, NONE, NONE, NONE},
            {1, NONE, NONE, 3, 4, 5, 6, 1, 2, 7},
            {1, NONE, NONE, 1, 7, NONE, NONE, 10, NONE, NONE},
            {2, NONE, 99, 1, 8, NONE, NONE, NONE, NONE, NONE},
            {3, NONE, NONE, 0, NONE, NONE, NONE, NONE, NONE, NONE}};
        for (int place = 0; place < want.length; place++) {
            for (int what = 0; what < 10; what++) {
                due("of " + place + " " + what, x.of(place, what), want[place][what]);
            }
            for (int what : new int[] {-1, 10, LEAST, MOST}) {
                due("of " + place + " " + what, x.of(place, what), NONE);
            }
        }
        for (int place : new int[] {-1, 6, 15, 16, LEAST, MOST}) {
            due("of " + place, x.of(place, 0), NONE);
        }
    }

    private static void pays() {
        Told.sentence("Promise 8", "What an END is worth at a STEP 0 .. 10. NOTHING.");
        ForgetfulRider x = Told.in("end step+5;inn 1 to 0;fork 0 to 0;turn 0 by 10");
        x.terms(1, 2);
        due("step 0", x.pays(0, 0), 5);
        due("step 10, behind the day", x.pays(0, 10), 15);
        for (int step : new int[] {-1, 11, LEAST, MOST}) {
            due("step " + step, x.pays(0, step), NOTHING);
        }
        for (int place : new int[] {-1, 1, 2, 3, 4, 16, LEAST, MOST}) {
            due("place " + place, x.pays(place, 0), NOTHING);
        }
    }
}
