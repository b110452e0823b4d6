import java.io.IOException;
import java.lang.reflect.Method;
import java.lang.reflect.Modifier;
import java.nio.file.Files;
import java.nio.file.Path;
import java.util.regex.Matcher;
import java.util.regex.Pattern;

/** README.md: its example answers what it says, and each call of the face is named there. */
public final class ReadmeTest {
    private static final Pattern CALL = Pattern.compile("^x\\.(\\w+)\\(([^)]*)\\); *// (-?\\d+)\\b.*", Pattern.MULTILINE);

    public static void main(String[] args) throws IOException, ReflectiveOperationException {
        String text = Files.readString(Path.of("README.md"));
        ForgetfulRider x = new ForgetfulRider();
        int calls = 0;
        for (Matcher m = CALL.matcher(text); m.find();) {
            calls++;
            Told.due("README: " + m.group(), ask(x, m.group(1), m.group(2)), Long.parseLong(m.group(3)));
        }
        Told.due("calls in README that are asked", calls, text.lines().filter(line -> line.startsWith("x.")).count());
        for (Method m : ForgetfulRider.class.getDeclaredMethods()) {
            if (Modifier.isPublic(m.getModifiers())) {
                Told.due("README names " + m.getName(), text.contains("`" + m.getName() + "`") ? 1 : 0, 1);
            }
        }
        Told.finish("ReadmeTest");
    }

    private static long ask(ForgetfulRider x, String name, String with) throws ReflectiveOperationException {
        String[] numbers = with.isEmpty() ? new String[0] : with.split(", *");
        for (Method m : ForgetfulRider.class.getDeclaredMethods()) {
            if (m.getName().equals(name) && m.getParameterCount() == numbers.length) {
                Object[] all = new Object[numbers.length];
                for (int i = 0; i < all.length; i++) {
                    long number = Long.parseLong(numbers[i].replace("L", ""));
                    boolean isLong = m.getParameterTypes()[i] == long.class;
                    all[i] = isLong ? (Object) number : (Object) Math.toIntExact(number);
                }
                return ((Number) m.invoke(x, all)).longValue();
            }
        }
        throw new IllegalStateException("no such call: " + name);
    }
}
