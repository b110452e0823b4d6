import java.util.ArrayList;
import java.util.List;
import java.util.Random;

/**
 * What a question is answered by is what stands, not what was asked ahead of it: an object that
 * was asked much answers as a new one does that was only told the same.
 */
public final class FreshTest {
    /** The calls that tell something, by WildTest's list. */
    private static final List<Integer> TELLING = List.of(0, 1, 2, 4, 7, 9, 15, 17, 29, 31, 32);

    /** A text, or a call. */
    private record Step(String text, long call) {
        void take(ForgetfulRider x) {
            if (text == null) {
                WildTest.call(x, call);
            } else {
                x.end(0);
                Told.read(x, text);
            }
        }
    }

    public static void main(String[] args) {
        int many = args.length > 0 ? Integer.parseInt(args[0]) : 200;
        for (int seed = 0; seed < many; seed++) {
            Random r = new Random(seed);
            ForgetfulRider x = new ForgetfulRider();
            List<Step> told = new ArrayList<>();
            for (int i = 0; i < 150; i++) {
                long call = r.nextLong();
                boolean telling = TELLING.contains(WildTest.which(call));
                if (i == 0 || r.nextInt(20) == 0) {
                    told.add(new Step(WildTest.anyText(r), 0));
                    told.get(told.size() - 1).take(x);
                } else if (!telling || told.size() < 25) {
                    String name = "seed " + seed + " call " + i + ", " + WildTest.which(call);
                    Told.due(name, WildTest.call(x, call), WildTest.call(fresh(told), call));
                    if (telling) {
                        told.add(new Step(null, call));
                    }
                }
            }
        }
        Told.finish("FreshTest");
    }

    private static ForgetfulRider fresh(List<Step> told) {
        ForgetfulRider x = new ForgetfulRider();
        for (Step step : told) {
            step.take(x);
        }
        return x;
    }
}
