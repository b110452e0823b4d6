import java.io.IOException;
import java.nio.charset.StandardCharsets;
import java.nio.file.Files;
import java.nio.file.Path;
import java.util.ArrayList;
import java.util.List;
import java.util.Set;
import java.util.TreeSet;

/** What all tests share: answers compared with those that are due, texts put on a tape. */
final class Told {
    private static int wrong = 0;
    private static int asked = 0;
    private static String sentence = "";
    private static int askedAhead = 0;
    private static final List<String> QUOTED = new ArrayList<>();
    private static final Set<String> HEADINGS = new TreeSet<>();

    private Told() {
    }

    static void due(String call, long got, long want) {
        asked++;
        if (got != want) {
            wrong++;
            if (wrong <= 12) {
                System.out.println(sentence + call + " answered " + got + ", due is " + want);
            }
        }
    }

    /** What is asked from here on is what these words of the document promise. */
    static void sentence(String heading, String words) {
        endSentence();
        sentence = heading + " \"" + words + "\": ";
        askedAhead = asked;
        QUOTED.add(words);
        HEADINGS.add(heading);
    }

    /** A sentence for which nothing was asked is not tested. */
    private static void endSentence() {
        if (!sentence.isEmpty() && asked == askedAhead) {
            due("answers asked for", 0, 1);
        }
        sentence = "";
    }

    /** With a path to the document, by hand, if it has changed: are these still its words? */
    static void finishSentences(String name, int firstPromise, int lastPromise, String... document) throws IOException {
        endSentence();
        for (int promise = firstPromise; promise <= lastPromise; promise++) {
            due("sentences of promise " + promise, HEADINGS.contains("Promise " + promise) ? 1 : 0, 1);
        }
        for (String path : document) {
            String words = oneLine(Files.readString(Path.of(path)));
            for (String quoted : QUOTED) {
                due("not in the document: " + quoted, words.contains(oneLine(quoted)) ? 1 : 0, 1);
            }
        }
        System.out.println(name + ": " + QUOTED.size() + " sentences");
        finish(name);
    }

    private static String oneLine(String text) {
        return text.replaceAll("\\s+", " ");
    }

    static void feed(ForgetfulRider x, String text) {
        feed(x, text.getBytes(StandardCharsets.ISO_8859_1));
    }

    /** The bytes behind what the tape has; it has nothing behind them. */
    static void feed(ForgetfulRider x, byte[] bytes) {
        int had = x.count(3);
        int[] five = new int[5];
        for (int at = 0; at < bytes.length; at += 20) {
            for (int i = 0; i < 5; i++) {
                five[i] = 0;
                for (int j = 0; j < 4; j++) {
                    int place = at + i * 4 + j;
                    five[i] = five[i] << 8 | (place < bytes.length ? bytes[place] & 255 : 0);
                }
            }
            due("feed at " + at, x.feed(five[0], five[1], five[2], five[3], five[4]), had + at + 20);
        }
        due("end", x.end(had + bytes.length), had + bytes.length);
    }

    static int read(ForgetfulRider x, String text) {
        feed(x, text);
        return x.country();
    }

    static ForgetfulRider in(String text) {
        ForgetfulRider x = new ForgetfulRider();
        if (read(x, text) <= 0) {
            due("no country: " + text + " FAULT " + x.fault(), -1, 0);
        }
        return x;
    }

    /** A text that is a country. */
    static void reads(String text, int places) {
        ForgetfulRider x = new ForgetfulRider();
        due("country of " + text, read(x, text), places);
        due("fault of " + text, x.fault(), -1);
        due("count of " + text, x.count(0), places);
        due("the grammar itself on " + text, Grammar.fault(text), -1);
    }

    /** A text that is none. */
    static void fault(String text, int at) {
        ForgetfulRider x = new ForgetfulRider();
        due("country of " + text, read(x, text), -6);
        due("fault of " + text, x.fault(), at);
        due("count of " + text, x.count(0), 0);
        due("the grammar itself on " + text, Grammar.fault(text), at);
    }

    /** What an end, place 1, is worth. */
    static void pays(String end, int step, int day, long want) {
        ForgetfulRider x = in("inn 0 to 1;end " + end);
        x.terms(1, day);
        due("pays of " + end + " at " + step + " of " + day, x.pays(1, step), want);
    }

    static void finish(String name) {
        System.out.println(name + ": " + asked + " answers, " + wrong + " wrong");
        if (wrong != 0 || asked == 0) {
            System.exit(1);
        }
    }
}
