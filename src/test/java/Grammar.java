import java.util.ArrayList;
import java.util.List;

/**
 * The document's grammar once more, as rules that are written anew for each TOKEN: a row of what
 * may still come, its first part spelt out until it is a TOKEN. It shares nothing with the class.
 */
final class Grammar {
    /** What may come: a name, and up to two numbers that it goes by. */
    record Part(String name, int a, int b) {
    }

    private record Token(char kind, String text, int at) {
    }

    private final List<Token> tokens = new ArrayList<>();
    private int parts = 0;

    private Grammar() {
    }

    /** The FAULT of a text, or -1. */
    static int fault(String text) {
        Grammar g = new Grammar();
        g.cut(text);
        List<List<Part>> rows = new ArrayList<>();
        rows.add(List.of(new Part("places", 0, 0)));
        for (Token t : g.tokens) {
            List<List<Part>> next = new ArrayList<>();
            for (List<Part> row : rows) {
                g.spell(row, t, next);
            }
            if (next.isEmpty()) {
                return t.at();
            }
            rows = next;
        }
        return -1;
    }

    private void cut(String text) {
        int at = 0;
        while (at < text.length()) {
            char c = text.charAt(at);
            int to = at + 1;
            if (c == ' ') {
                at++;
                continue;
            }
            char kind = 's';
            if (c >= 'a' && c <= 'z') {
                kind = 'w';
                while (to < text.length() && text.charAt(to) >= 'a' && text.charAt(to) <= 'z') {
                    to++;
                }
            } else if (c >= '0' && c <= '9') {
                kind = 'n';
                while (to < text.length() && text.charAt(to) >= '0' && text.charAt(to) <= '9') {
                    to++;
                }
            }
            tokens.add(new Token(kind, text.substring(at, to), at));
            at = to;
        }
        tokens.add(new Token('e', "", text.length()));
    }

    /** Every row into which this one can be spelt out behind the token. */
    private void spell(List<Part> row, Token t, List<List<Part>> next) {
        if (row.isEmpty()) {
            if (t.kind() == 'e') {
                next.add(row);
            }
            return;
        }
        Part p = row.get(0);
        List<Part> rest = row.subList(1, row.size());
        switch (p.name()) {
            case "number":
                if (t.kind() == 'n' && between(t, p.a(), p.b())) {
                    next.add(rest);
                }
                break;
            case "tenths":
                if (t.kind() == 'n' && between(t, 1, p.a())) {
                    next.add(with(rest, new Part("moreturn", p.a() - Integer.parseInt(strip(t.text())), p.b())));
                }
                break;
            case "atom":
                boolean is = t.kind() == 'n' && between(t, 0, 1000)
                        || t.kind() == 'w' && List.of("step", "place", "day").contains(t.text());
                if (is && parts < 50) {
                    parts++;
                    next.add(rest);
                }
                break;
            default:
                if (p.name().startsWith("'")) {
                    if (t.kind() != 'n' && t.kind() != 'e' && p.name().equals("'" + t.text())) {
                        next.add(rest);
                    }
                    break;
                }
                for (Part[] way : ways(p)) {
                    spell(with(rest, way), t, next);
                }
        }
    }

    private static String strip(String digits) {
        String s = digits.replaceFirst("^0+", "");
        return s.isEmpty() ? "0" : s;
    }

    private static boolean between(Token t, int least, int most) {
        String s = strip(t.text());
        return s.length() < 6 && Integer.parseInt(s) >= least && Integer.parseInt(s) <= most;
    }

    private static List<Part> with(List<Part> rest, Part... ahead) {
        List<Part> all = new ArrayList<>(List.of(ahead));
        all.addAll(rest);
        return all;
    }

    private static Part part(String name, int... numbers) {
        return new Part(name, numbers.length > 0 ? numbers[0] : 0, numbers.length > 1 ? numbers[1] : 0);
    }

    private static Part[] way(Part... parts) {
        return parts;
    }

    private static Part[][] ways(Part p) {
        int a = p.a();
        int b = p.b();
        Part road = part("number", 0, 15);
        switch (p.name()) {
            case "places":
                return a == 16 ? new Part[][] {} : new Part[][] {
                    way(part("'fork"), part("number", 0, 5), part("'to"), road, part("moreroads", 2), part("moreplaces", a)),
                    way(part("'turn"), road, part("'by"), part("tenths", 10, 2), part("moreplaces", a)),
                    way(part("'inn"), part("number", 0, 99), part("'to"), road, part("moreplaces", a)),
                    way(part("'end"), part("sum", 0), part("maybeif"), part("moreplaces", a))};
            case "moreplaces":
                return new Part[][] {way(), way(part("';"), part("places", a + 1))};
            case "moreroads":
                return a == 0 ? new Part[][] {way()}
                    : new Part[][] {way(), way(part("',"), road, part("moreroads", a - 1))};
            case "moreturn":
                Part[] on = way(part("',"), road, part("'by"), part("tenths", a, b - 1));
                return a == 0 && b == 0 ? new Part[][] {way()} : a == 0 ? new Part[][] {way(), on}
                    : b == 0 ? new Part[][] {} : new Part[][] {on};
            case "maybeif":
                return new Part[][] {way(), way(part("'if"), part("test", 0))};
            case "test":
                return new Part[][] {way(part("both", a), part("moretest", a))};
            case "moretest":
                return new Part[][] {way(), way(part("'or"), part("both", a), part("moretest", a))};
            case "both":
                return new Part[][] {way(part("plain", a), part("moreboth", a))};
            case "moreboth":
                return new Part[][] {way(), way(part("'and"), part("plain", a), part("moreboth", a))};
            case "plain":
                Part[] not = way(part("'not"), part("plain", a));
                Part[] compared = way(part("sum", a), part("how"), part("sum", a));
                return a == 8 ? new Part[][] {not, compared}
                    : new Part[][] {not, compared, way(part("'("), part("test", a + 1), part("')"))};
            case "how":
                return new Part[][] {way(part("'<")), way(part("'>")), way(part("'="))};
            case "sum":
                return new Part[][] {way(part("term", a), part("moresum", a))};
            case "moresum":
                return new Part[][] {way(), way(part("'+"), part("term", a), part("moresum", a)),
                    way(part("'-"), part("term", a), part("moresum", a))};
            case "term":
                return new Part[][] {way(part("part", a), part("moreterm", a))};
            case "moreterm":
                return new Part[][] {way(), way(part("'*"), part("part", a), part("moreterm", a)),
                    way(part("'/"), part("part", a), part("moreterm", a))};
            case "part":
                return a == 8 ? new Part[][] {way(part("atom"))}
                    : new Part[][] {way(part("atom")), way(part("'["), part("sum", a + 1), part("']"))};
            default:
                throw new IllegalStateException(p.name());
        }
    }
}
