import java.io.IOException;
import java.lang.reflect.InvocationTargetException;
import java.lang.reflect.Method;
import java.lang.reflect.Modifier;
import java.nio.file.Files;
import java.nio.file.Path;
import java.util.Set;
import java.util.TreeSet;
import java.util.regex.Matcher;
import java.util.regex.Pattern;

/** The example of README.md: every call of it answers what stands behind it, and every call is in it. */
public final class ReadmeTest {
    private static final Pattern TEXT = Pattern.compile("\"([^\"]*)\"");
    private static final Pattern CALL = Pattern.compile("x\\.(\\w+)\\(([^)]*)\\);\\s*// (-?\\d+|[A-Z]+)\\b.*");

    public static void main(String[] args)
        throws IOException, IllegalAccessException, InvocationTargetException {
        Check c = new Check();
        WhoseDay x = new WhoseDay();
        Set<String> called = new TreeSet<>();
        boolean isIn = false;
        String begun = "";
        for (String line : Files.readAllLines(Path.of("README.md"))) {
            if (line.startsWith("WhoseDay x = new")) {
                isIn = true;
            } else if (line.startsWith("```")) {
                isIn = false;
            } else if (isIn && !line.isBlank() && !line.startsWith("//")) {
                begun += line;
                if (begun.contains(");")) {
                    called.add(follow(c, x, begun));
                    begun = "";
                }
            }
        }
        called.remove("tape");
        Set<String> face = new TreeSet<>();
        for (Method m : WhoseDay.class.getDeclaredMethods()) {
            if (Modifier.isPublic(m.getModifiers())) {
                face.add(m.getName());
            }
        }
        c.due("all calls are in the example: " + called + " of " + face, called.equals(face) ? 1 : 0, 1);
        c.end("ReadmeTest");
    }

    /** Makes the call of a line; its name. */
    private static String follow(Check c, WhoseDay x, String line)
        throws IllegalAccessException, InvocationTargetException {
        if (line.startsWith("tape(x, ")) {
            StringBuilder text = new StringBuilder();
            Matcher parts = TEXT.matcher(line);
            while (parts.find()) {
                text.append(parts.group(1));
            }
            tape(x, text.toString());
            return "tape";
        }
        Matcher call = CALL.matcher(line);
        if (!call.matches()) {
            throw new IllegalStateException("README.md has a line that is no call: " + line);
        }
        String[] words = call.group(2).isEmpty() ? new String[0] : call.group(2).split(", ");
        Method method = methodOf(call.group(1));
        Object[] given = new Object[words.length];
        for (int i = 0; i < words.length; i++) {
            boolean isTruth = method.getParameterTypes()[i] == boolean.class;
            given[i] = isTruth ? (Object) Boolean.valueOf(words[i]) : (Object) numberOf(words[i]);
        }
        long got = ((Number) method.invoke(x, given)).longValue();
        c.due(line, got, numberOf(call.group(3)));
        return call.group(1);
    }

    /** As README.md writes it. */
    static void tape(WhoseDay x, String text) {
        x.end(0);
        for (int i = 0; i < text.length(); i += 20) {
            int[] five = new int[5];
            for (int k = 0; k < 20; k++) {
                five[k / 4] = five[k / 4] << 8 | (i + k < text.length() ? text.charAt(i + k) : ' ');
            }
            x.feed(five[0], five[1], five[2], five[3], five[4]);
        }
        x.end(text.length());
    }

    private static Method methodOf(String name) {
        for (Method m : WhoseDay.class.getDeclaredMethods()) {
            if (m.getName().equals(name)) {
                return m;
            }
        }
        throw new IllegalStateException("README.md has a call that there isn't: " + name);
    }

    private static int numberOf(String word) {
        switch (word) {
            case "NONE":
            case "WhoseDay.NONE":
                return WhoseDay.NONE;
            case "RANGE":
                return WhoseDay.RANGE;
            case "FULL":
                return WhoseDay.FULL;
            case "STATE":
                return WhoseDay.STATE;
            default:
                return Integer.decode(word);
        }
    }
}
