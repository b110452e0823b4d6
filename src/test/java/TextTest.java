import java.util.ArrayList;
import java.util.List;
import java.util.Random;

/** Texts: which are a country, where the others have their FAULT, what their ends are worth. */
public final class TextTest {
    private static final String[] TOKENS = {
        "fork", "turn", "inn", "end", "to", "by", "if", "or", "and", "not", "step", "place", "day", "lake",
        "0", "1", "2", "5", "6", "9", "10", "11", "15", "16", "99", "100", "1000", "1001", "007", "99999999999",
        "(", ")", "[", "]", "<", ">", "=", "+", "-", "*", "/", ",", ";", ";", "!", "F", "\0", "\n", "\u00e9"};

    public static void main(String[] args) {
        faults();
        limits();
        sums();
        behind();
        changed(args.length > 0 ? Integer.parseInt(args[0]) : 20000);
        Told.finish("TextTest");
    }

    private static void faults() {
        Told.fault("", 0);
        Told.fault("   ", 3);
        Told.fault("end", 3);
        Told.fault("end  ", 5);
        Told.fault("fork", 4);
        Told.fault("fork 6 to 1", 5);
        Told.fault("fork 0", 6);
        Told.fault("fork 0 by 1", 7);
        Told.fault("fork 0 to 16", 10);
        Told.fault("fork 0 to 1,", 12);
        Told.fault("fork 0 to 1,2,3,4", 15);
        Told.fault("fork 0 to 1 2", 12);
        Told.fault("fork0to1,2,3 x", 13);
        Told.reads("fork0to1,2,3", 1);
        Told.reads("  fork 5 to 15  ", 1);
        Told.reads("fork 005 to 0015", 1);
        Told.fault("turn 1 by 0", 10);
        Told.fault("turn 1 by 11", 10);
        Told.fault("turn 1 by 9", 11);
        Told.fault("turn 1 by 9 ; end 1", 12);
        Told.fault("turn 1 by 5,2 by 6", 17);
        Told.fault("turn 1 by 10,2 by 1", 18);
        Told.fault("turn 1 by 10,2 of 1", 15);
        Told.fault("turn 1 by 10,2 by 0", 18);
        Told.fault("turn 1 by 3,2 by 3,3 by 3", 25);
        Told.fault("turn 1 by 3,2 by 3,3 by 3,4 by 1", 25);
        Told.fault("turn 1 by 3,2 by 3,3 by 4,4 by 1", 25);
        Told.reads("turn 1 by 3,2 by 3,3 by 4", 1);
        Told.reads("turn 1 by 10", 1);
        Told.fault("inn 100 to 1", 4);
        Told.fault("inn 99 to 16", 10);
        Told.fault("inn 9 to 1,2", 10);
        Told.reads("inn 99 to 15;inn 0 to 0", 2);
        Told.fault("end 1001", 4);
        Told.reads("end 1000", 1);
        Told.fault("end -1", 4);
        Told.fault("end 1 if", 8);
        Told.fault("end 1 if 2", 10);
        Told.fault("end 1 if (step)", 14);
        Told.fault("end 1 if [step]", 15);
        Told.fault("end 1 if [step > 1]", 15);
        Told.fault("end 1 if (step > 1) > 2", 20);
        Told.fault("end 1 if step > 1 > 2", 18);
        Told.fault("end 1 or 2", 6);
        Told.fault("end [1", 6);
        Told.fault("end (1)", 4);
        Told.fault("end 1;", 6);
        Told.fault("end 1;;", 6);
        Told.fault("End 1", 0);
        Told.fault("end steps", 4);
        Told.fault("end step2", 8);
        Told.fault("end 1 if step not > 1", 14);
        Told.fault("end 1\n", 5);
        Told.fault("end 1\t", 5);
        Told.fault("end 1\0", 5);
        Told.fault("\u00e9", 0);
        Told.reads("end 1 if not not not step=1", 1);
        Told.reads("end[1+2]*3-day/place if(1<2 or 2>1)and not(step=place)", 1);
        Told.fault("end 1 if step <= 3", 15);
        Told.fault("endz 1", 0);
        Told.fault("enda 1", 0);
        Told.fault("end z", 4);
        Told.fault("end 1z", 5);
    }

    private static void limits() {
        String sixteen = "end 1" + ";end 1".repeat(15);
        Told.reads(sixteen, 16);
        Told.fault(sixteen + ";", sixteen.length() + 1);
        Told.fault(sixteen + "; end 1", sixteen.length() + 2);
        Told.fault(sixteen + " ;  lake", sixteen.length() + 4);
        Told.fault(sixteen + " lake", sixteen.length() + 1);
        String fifty = "end 1" + "+1".repeat(49);
        Told.reads(fifty, 1);
        Told.reads(fifty + ";fork 0 to 1,2,3", 2);
        Told.fault(fifty + "+1", fifty.length() + 1);
        Told.fault(fifty + "+step", fifty.length() + 1);
        Told.fault(fifty + ";end 1", fifty.length() + 5);
        Told.fault(fifty + "+[1", fifty.length() + 2);
        String both = "end 1" + "+1".repeat(24) + " if step" + "+day".repeat(24) + "=";
        Told.fault(both + "place", both.length());
        String eight = "end " + "[".repeat(8) + "1";
        Told.reads(eight + "]".repeat(8), 1);
        Told.fault("end " + "[".repeat(9) + "1" + "]".repeat(9), 12);
        Told.reads("end 1 if " + "(".repeat(8) + "1=1" + ")".repeat(8), 1);
        Told.fault("end 1 if " + "(".repeat(9) + "1=1" + ")".repeat(9), 17);
        Told.reads("end 1 if ((((([[[1]]]=1)))))", 1);
        Told.fault("end 1 if ((((([[[[1]]]]=1)))))", 17);
        Told.reads("end [[[[1]]]]+[[[[[[[[1]]]]]]]] if ((((1=1)))) and ((((((((1=1))))))))", 1);
        String nots = "end 7 if " + "not ".repeat(96) + "step=1";
        Told.reads(nots, 1);
        Told.due("even nots", Told.in(nots).pays(0, 1), 7);
        Told.due("odd nots", Told.in(nots.replaceFirst("not ", "")).pays(0, 1), 0);
        Told.fault("end " + "9".repeat(390), 4);
        Told.reads("end " + "0".repeat(390) + "7", 1);
    }

    private static void sums() {
        Told.pays("1+2*3", 0, 10, 7);
        Told.pays("[1+2]*3", 0, 10, 9);
        Told.pays("10-3-2", 0, 10, 5);
        Told.pays("100/7/2", 0, 10, 7);
        Told.pays("[1-8]/2", 0, 10, -3);
        Told.pays("8/[0-3]", 0, 10, -2);
        Told.pays("step*100+place*10+day", 3, 7, 317);
        Told.pays("1000", 0, 10, 999);
        Told.pays("0-1000", 0, 10, -999);
        Told.pays("1000*1000*1000/1000/1000/1000", 0, 10, 1);
        Told.pays("1000*1000*1000+1-1000*1000*1000", 0, 10, 0);
        Told.pays("0-1000*1000*1000", 0, 10, -999);
        Told.pays("0-1000*1000*1000-1", 0, 10, 0);
        Told.pays("1000*1000*1000*2/2", 0, 10, 0);
        Told.pays("5/step", 0, 10, 0);
        Told.pays("5/step", 2, 10, 2);
        Told.pays("5/[step/2]", 1, 10, 0);
        Told.pays("5 if step<2", 1, 10, 5);
        Told.pays("5 if step<2", 2, 10, 0);
        Told.pays("5 if step>2", 3, 10, 5);
        Told.pays("5 if step>2", 2, 10, 0);
        Told.pays("5 if step=day", 10, 10, 5);
        Told.pays("5 if step=day", 9, 10, 0);
        Told.pays("5 if place=1 or 1/0=1", 0, 10, 5);
        Told.pays("5 if 1/0=1 or place=1", 0, 10, 0);
        Told.pays("5 if place=0 and 1/0=1 or place=1", 0, 10, 5);
        Told.pays("5 if place=1 and 1/0=1 or place=1", 0, 10, 0);
        Told.pays("5 if not place=0 and place=1", 0, 10, 5);
        Told.pays("5 if not (place=1 and place=0)", 0, 10, 5);
        Told.pays("5 if not 1/0=1", 0, 10, 0);
        Told.pays("5 if not (1/0=1 and 1=0)", 0, 10, 0);
        Told.pays("5 if not (1=0 and 1/0=1)", 0, 10, 5);
        Told.pays("5 if 1=0 and 1=0 or 1=1", 0, 10, 5);
        Told.pays("5 if not 1=1 and 1=1", 0, 10, 0);
        Told.pays("5 if not 1=1 or 1=0", 0, 10, 0);
        Told.pays("5 if not 1=0 or 1/0=1", 0, 10, 5);
        Told.pays("5 if not (not 1=1)", 0, 10, 5);
        Told.pays("5 if not (not (not 1=0))", 0, 10, 5);
        Told.pays("5 if 1=1 or 1=0 and 1=0", 0, 10, 5);
        Told.pays("5 if (1=1 or 1=0) and 1=0", 0, 10, 0);
        Told.pays("5 if 1=0 or 1=0 or 1=1 and 1=1", 0, 10, 5);
        Told.pays("1/0 if 1=1", 0, 10, 0);
        Told.pays("5 if 1000*1000*1000*1000 > 1", 0, 10, 0);
        Told.pays("5 if 1000*1000*1000 > 1", 0, 10, 5);
    }

    /** What end() cut away, or an earlier text left, is not read. */
    private static void behind() {
        cutTo("end 12", 5, 1, -1);
        cutTo("end daylight", 7, 1, -1);
        cutTo("end 1    ", 6, 1, -1);
        cutTo("end    1", 5, -6, 5);
        cutTo("end 1;end 2", 5, 1, -1);
        cutTo("end 1+2", 6, -6, 6);
        ForgetfulRider x = new ForgetfulRider();
        Told.due("blanks", Told.read(x, "     "), -6);
        Told.due("empty", x.country(), -6);
        Told.due("fault of an empty tape behind blanks", x.fault(), 0);
        Told.feed(x, "end 12");
        Told.due("cut", x.end(5), 5);
        Told.due("country", x.country(), 1);
        Told.due("the cut number", x.pays(0, 0), 1);
    }

    private static void cutTo(String text, int length, int want, int fault) {
        ForgetfulRider x = new ForgetfulRider();
        Told.feed(x, text);
        x.end(length);
        Told.due("country of " + text + " cut to " + length, x.country(), want);
        Told.due("fault of " + text + " cut to " + length, x.fault(), fault);
    }

    /** Texts of the model, some of their TOKENS changed. */
    private static void changed(int many) {
        Random r = new Random(1);
        for (int i = 0; i < many; i++) {
            Model m = Model.any(r, 1 + r.nextInt(4), 6, 3 + r.nextInt(5));
            List<String> tokens = cut(m.text());
            for (int j = r.nextInt(4); j > 0; j--) {
                int at = r.nextInt(tokens.size() + 1);
                String one = TOKENS[r.nextInt(TOKENS.length)];
                if (at == tokens.size() || r.nextInt(3) == 0) {
                    tokens.add(at, one);
                } else if (r.nextBoolean()) {
                    tokens.set(at, one);
                } else if (tokens.size() > 1) {
                    tokens.remove(at);
                }
            }
            String text = String.join(" ".repeat(1 + r.nextInt(2)), tokens) + " ".repeat(r.nextInt(2));
            if (text.length() <= 380) {
                int want = Grammar.fault(text);
                ForgetfulRider x = new ForgetfulRider();
                int got = Told.read(x, text);
                Told.due("country of " + text, got > 0 ? 1 : got, want == -1 ? 1 : -6);
                Told.due("fault of " + text, x.fault(), want);
            }
        }
    }

    private static List<String> cut(String text) {
        List<String> tokens = new ArrayList<>();
        for (String token : text.replaceAll("([^a-z0-9 ])", " $1 ").trim().split(" +")) {
            tokens.add(token);
        }
        return tokens;
    }
}
