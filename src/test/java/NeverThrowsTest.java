import java.lang.reflect.InvocationTargetException;
import java.lang.reflect.Method;
import java.lang.reflect.Modifier;
import java.util.ArrayList;
import java.util.Comparator;
import java.util.List;
import java.util.Random;

/** Any calls with any numbers: none throws, none changes what a twin object answers. */
public final class NeverThrowsTest {
    private static final int[] EDGES = {Integer.MIN_VALUE, Integer.MAX_VALUE, -1, -2, 0, 1, 7, 8, 11, 12, 27, 28, 199,
        200, 201, 255, 256, 899, 900, 901, 999, 1000, 14832, 14833, 1 << 30};

    public static void main(String[] args) throws IllegalAccessException, InvocationTargetException {
        Check c = new Check();
        List<Method> methods = new ArrayList<>();
        for (Method m : WhoseDay.class.getDeclaredMethods()) {
            if (Modifier.isPublic(m.getModifiers())) {
                methods.add(m);
            }
        }
        methods.sort(Comparator.comparing(Method::getName));
        c.due("public methods", methods.size(), 38);
        for (int seed = 0; seed < 400; seed++) {
            Random r = new Random(seed);
            WhoseDay x = new WhoseDay();
            WhoseDay twin = new WhoseDay();
            for (int i = 0; i < 200; i++) {
                if (r.nextInt(12) == 0) {
                    String text = text(r);
                    Check.tape(x, text);
                    Check.tape(twin, text);
                    c.due("town()", x.town(), twin.town());
                }
                Method m = methods.get(r.nextInt(methods.size()));
                Object[] numbers = numbers(m, r);
                c.due(m.getName(), ((Number) m.invoke(x, numbers)).longValue(),
                    ((Number) m.invoke(twin, numbers)).longValue());
            }
        }
        c.end("NeverThrowsTest");
    }

    private static Object[] numbers(Method m, Random r) {
        Object[] numbers = new Object[m.getParameterCount()];
        for (int i = 0; i < numbers.length; i++) {
            if (m.getParameterTypes()[i] == boolean.class) {
                numbers[i] = r.nextBoolean();
            } else {
                int kind = r.nextInt(12);
                numbers[i] = kind == 0 ? EDGES[r.nextInt(EDGES.length)] : kind == 1 ? r.nextInt() : kind < 4
                    ? r.nextInt(28) : r.nextInt(5);
            }
        }
        return numbers;
    }

    private static String text(Random r) {
        StringBuilder b = new StringBuilder();
        int people = r.nextInt(40) == 0 ? 8 : 2 + r.nextInt(5);
        for (int i = 0; i < people; i++) {
            b.append("person ").append((char) ('a' + i)).append(";");
        }
        String names = "abcdefgh".substring(0, people);
        String[] more = {"fact ? 3;", "fact ? 0;", "fact ? 27;", "nap ? 4;", "talk a b 3;", "dull ? 2 9;", "want ? 1 9;",
            "hide ? 0 5;", "person z alone;", "trade ? 9;", "law 1;", "deep 2;", "year 3;", "dreams a b;"};
        int n = r.nextInt(14);
        for (int i = 0; i < n; i++) {
            b.append(more[r.nextInt(more.length)].replace('?', names.charAt(r.nextInt(people))));
        }
        return b.toString();
    }
}
