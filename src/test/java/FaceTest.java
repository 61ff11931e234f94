import java.lang.reflect.Constructor;
import java.lang.reflect.Field;
import java.lang.reflect.Method;
import java.lang.reflect.Modifier;
import java.util.Set;
import java.util.TreeSet;

/** "The public face": every constant, constructor and method of the document, and no other. */
public final class FaceTest {
    private static final String[] CALLS = {
        "int feed(int, int, int, int, int)", "int end(int)",
        "int town()", "int fault(int)", "int told(int)", "int turnings()", "int turn(int)", "int dreams(int)",
        "int number()",
        "int knows(int, int, int)", "int comes(int, int, int, int)", "int all(int, int)", "int judge()",
        "int act(int, int, int, int, int)", "int right(int, int, int)", "int fit(int, int)", "int sure(int, int)",
        "int ask(int)", "int knowers(int, int, int, int)",
        "int wishes()", "int met(int)", "int plan()", "int said(int, int, int)", "int over(int, int, int, int)",
        "int skill(int, int)", "int ring(int)", "int marry(int, int)", "int kept(int, int, int)",
        "int lot(int, int, int, boolean)", "int lotDay(int, boolean)", "long rings()", "long parts(int, int)",
        "int begin(int)", "int go(int)", "int now(int, int)", "int keep(int)", "int take(int)", "int count(int)"};

    public static void main(String[] args) throws IllegalAccessException {
        Check c = new Check();
        c.says("public final class WhoseDay");
        int kind = WhoseDay.class.getModifiers();
        c.due("public", Modifier.isPublic(kind) ? 1 : 0, 1);
        c.due("final", Modifier.isFinal(kind) ? 1 : 0, 1);
        c.due("abstract", Modifier.isAbstract(kind) ? 1 : 0, 0);
        c.due("of no other class", WhoseDay.class.getSuperclass() == Object.class ? 1 : 0, 1);
        c.due("interfaces", WhoseDay.class.getInterfaces().length, 0);
        c.due("without a package", WhoseDay.class.getPackageName().isEmpty() ? 1 : 0, 1);
        constants(c);
        constructor(c);
        calls(c);
        c.end("FaceTest");
    }

    private static void constants(Check c) throws IllegalAccessException {
        c.says("NONE = -1, RANGE = -2, FULL = -3, STATE = -4");
        Set<String> found = new TreeSet<>();
        for (Field f : WhoseDay.class.getFields()) {
            boolean isConstant = Modifier.isStatic(f.getModifiers()) && Modifier.isFinal(f.getModifiers());
            found.add(f.getType() + " " + f.getName() + " = " + (isConstant ? f.getInt(null) : "?"));
        }
        due(c, found, "int NONE = -1", "int RANGE = -2", "int FULL = -3", "int STATE = -4");
    }

    private static void constructor(Check c) {
        c.says("public WhoseDay();");
        Constructor<?>[] all = WhoseDay.class.getDeclaredConstructors();
        c.due("constructors", all.length, 1);
        c.due("parameters", all[0].getParameterCount(), 0);
        c.due("public", Modifier.isPublic(all[0].getModifiers()) ? 1 : 0, 1);
    }

    private static void calls(Check c) {
        c.says("public int feed(int a, int b, int c, int d, int e); .. public int count(int what);");
        Set<String> found = new TreeSet<>();
        for (Method m : WhoseDay.class.getDeclaredMethods()) {
            if (!Modifier.isPrivate(m.getModifiers())) {
                found.add(told(m));
            }
        }
        due(c, found, CALLS);
    }

    private static String told(Method m) {
        StringBuilder b = new StringBuilder();
        b.append(Modifier.isPublic(m.getModifiers()) && !Modifier.isStatic(m.getModifiers()) ? "" : "? ");
        b.append(m.getReturnType()).append(" ").append(m.getName()).append("(");
        for (int i = 0; i < m.getParameterCount(); i++) {
            b.append(i == 0 ? "" : ", ").append(m.getParameterTypes()[i]);
        }
        b.append(")").append(m.getExceptionTypes().length == 0 ? "" : " throws");
        return b.toString();
    }

    private static void due(Check c, Set<String> found, String... wanted) {
        for (String one : wanted) {
            c.due("has " + one, found.contains(one) ? 1 : 0, 1);
        }
        c.due("so many: " + found, found.size(), wanted.length);
    }
}
