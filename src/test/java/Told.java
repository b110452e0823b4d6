import java.nio.charset.StandardCharsets;

/** What all tests share: answers compared with those that are due, texts put on a tape. */
final class Told {
    private static int wrong = 0;
    private static int asked = 0;

    private Told() {
    }

    static void due(String call, long got, long want) {
        asked++;
        if (got != want) {
            wrong++;
            if (wrong <= 12) {
                System.out.println(call + " answered " + got + ", due is " + want);
            }
        }
    }

    static void feed(ForgetfulRider x, String text) {
        feed(x, text.getBytes(StandardCharsets.ISO_8859_1));
    }

    /** The bytes behind what the tape has; it has nothing behind them. */
    static void feed(ForgetfulRider x, byte[] bytes) {
        int had = x.count(3);
        int[] five = new int[5];
        for (int at = 0; at < bytes.length; at += 20) {
            for (int i = 0; i < 5; i++) {
                five[i] = 0;
                for (int j = 0; j < 4; j++) {
                    int place = at + i * 4 + j;
                    five[i] = five[i] << 8 | (place < bytes.length ? bytes[place] & 255 : 0);
                }
            }
            due("feed at " + at, x.feed(five[0], five[1], five[2], five[3], five[4]), had + at + 20);
        }
        due("end", x.end(had + bytes.length), had + bytes.length);
    }

    static int read(ForgetfulRider x, String text) {
        feed(x, text);
        return x.country();
    }

    static ForgetfulRider in(String text) {
        ForgetfulRider x = new ForgetfulRider();
        if (read(x, text) <= 0) {
            due("no country: " + text + " FAULT " + x.fault(), -1, 0);
        }
        return x;
    }

    static void finish(String name) {
        System.out.println(name + ": " + asked + " answers, " + wrong + " wrong");
        if (wrong != 0 || asked == 0) {
            System.exit(1);
        }
    }
}
