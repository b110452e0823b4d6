import java.io.IOException;
import java.lang.reflect.Constructor;
import java.lang.reflect.Field;
import java.lang.reflect.Method;
import java.lang.reflect.Modifier;
import java.nio.file.Files;
import java.nio.file.Path;
import java.util.ArrayList;
import java.util.List;
import java.util.Set;
import java.util.TreeSet;
import java.util.regex.Matcher;
import java.util.regex.Pattern;

/** What of LANGUAGE.md can be seen in the source and in the classes. */
public final class LanguageTest {
    private static final String FACE = "back belief bet cast count country die end ends fault feed follow from image "
            + "knowing knows of paint pays plain pocket power price ride road rode rule signed signs status tenths terms "
            + "used visits worth";
    private static final String[] RULED_OUT = {
        "\\bthrow\\b", "\\bthrows\\b", "\\btry\\b", "\\bcatch\\b", "\\bfinally\\b", "\\bsynchronized\\b", "\\bassert\\b",
        "->", "::", "\\bpackage\\b", "\\bprotected\\b", "\\bvolatile\\b", "\\bnative\\b", "Exact\\b", "\\bObject\\b",
        "System\\.(?!arraycopy)", "\\bThread\\b", "\\bRandom\\b", "Math\\.random", "\\bscanner\\b", "static \\{",
        "\\bimport (?!java\\.util\\.(Arrays|ArrayList|List|Iterator);)", "@", "\\?\\s*>"};

    public static void main(String[] args) throws IOException {
        List<String> lines = Files.readAllLines(Path.of("src/main/java/ForgetfulRider.java"));
        String code = String.join("\n", lines).replaceAll("(?s)/\\*.*?\\*/", "").replaceAll("//[^\n]*", "");
        for (String no : RULED_OUT) {
            Matcher m = Pattern.compile(no).matcher(code);
            Told.due("ruled out: " + no, m.find() ? 1 : 0, 0);
        }
        for (char c : code.toCharArray()) {
            Told.due("sign " + (int) c, c == '\n' || c >= 32 && c < 127 ? 1 : 0, 1);
        }
        longMethods(lines);
        face();
        Told.finish("LanguageTest");
    }

    private static void longMethods(List<String> lines) {
        int from = -1;
        for (int i = 0; i < lines.size(); i++) {
            String line = lines.get(i);
            if (line.matches(" {4,8}\\S.*\\) \\{") && !line.contains("class ")) {
                from = i;
            }
            if (from >= 0 && line.matches(" {4,8}\\}")) {
                Told.due("lines of the method at " + (from + 1), Math.max(45, i - from + 1), 45);
                from = -1;
            }
        }
    }

    private static void face() {
        Class<?> c = ForgetfulRider.class;
        Set<String> names = new TreeSet<>();
        for (Method m : c.getDeclaredMethods()) {
            if (Modifier.isPublic(m.getModifiers())) {
                names.add(m.getName());
            } else {
                Told.due("private: " + m.getName(), Modifier.isPrivate(m.getModifiers()) ? 1 : 0, 1);
            }
        }
        Told.due("the face is " + names, String.join(" ", names).equals(FACE) ? 1 : 0, 1);
        for (Constructor<?> k : c.getDeclaredConstructors()) {
            Told.due("constructor", k.getParameterCount() + (Modifier.isPublic(k.getModifiers()) ? 0 : 1), 0);
        }
        List<Class<?>> all = new ArrayList<>(List.of(c.getDeclaredClasses()));
        Told.due("classes " + all.size(), all.size() < 12 ? 1 : 0, 1);
        for (Class<?> inside : all) {
            Told.due("static: " + inside, Modifier.isStatic(inside.getModifiers()) ? 1 : 0, 1);
            for (Method m : inside.getDeclaredMethods()) {
                Told.due("a name of the face: " + m, names.contains(m.getName()) ? 1 : 0, 0);
                Told.due("parameters of " + m, Math.max(7, m.getParameterCount()), 7);
            }
        }
        all.add(c);
        for (Class<?> one : all) {
            int fields = 0;
            for (Field f : one.getDeclaredFields()) {
                boolean fixed = Modifier.isStatic(f.getModifiers());
                Told.due("static and final: " + f, fixed && !Modifier.isFinal(f.getModifiers()) ? 1 : 0, 0);
                boolean ofFace = f.getName().equals("NONE") || f.getName().equals("NOTHING");
                Told.due("private: " + f, one == c && !ofFace && !Modifier.isPrivate(f.getModifiers()) ? 1 : 0, 0);
                fields += fixed ? 0 : 1;
            }
            Told.due("fields of " + one, Math.max(20, fields), 20);
        }
    }
}
