import java.io.IOException;
import java.lang.reflect.Field;
import java.lang.reflect.Method;
import java.lang.reflect.Modifier;
import java.nio.file.Files;
import java.nio.file.Path;
import java.util.HashSet;
import java.util.Set;
import java.util.regex.Matcher;
import java.util.regex.Pattern;

/** Those rules of LANGUAGE.md that can be seen in the text of the class, and its face. */
public final class LanguageTest {
    public static void main(String[] args) throws IOException {
        Check c = new Check();
        String text = Files.readString(Path.of(args.length > 0 ? args[0] : "src/main/java/WhoseDay.java"));
        String code = text.replaceAll("(?s)/\\*.*?\\*/", "").replaceAll("//[^\n]*", "");
        String[] forbidden = {"throw", "throws", "try", "catch", "finally", "synchronized", "assert", "->", "::",
            "protected", "package", "Object", "hashCode", "System.out", "Exact(", "double", "float", "new Thread",
            "\\bequals\\(", "\\[\\]\\[\\]\\[\\]"};
        for (String word : forbidden) {
            String pattern = word.matches("[a-zA-Z]+") ? "\\b" + word + "\\b" : word.contains("\\") ? word
                : Pattern.quote(word);
            c.due("places of " + word, Pattern.compile(pattern).matcher(code).results().count(), 0);
        }
        Matcher imports = Pattern.compile("(?m)^import .*$").matcher(code);
        while (imports.find()) {
            c.due(imports.group(), imports.group().equals("import java.util.Arrays;") ? 1 : 0, 1);
        }
        face(c);
        names(c);
        c.due("classes inside", WhoseDay.class.getDeclaredClasses().length <= 12 ? 1 : 0, 1);
        methodLengths(c, code);
        c.end("LanguageTest");
    }

    private static void face(Check c) {
        c.due("final", Modifier.isFinal(WhoseDay.class.getModifiers()) ? 1 : 0, 1);
        int constants = 0;
        for (Field f : WhoseDay.class.getDeclaredFields()) {
            if (Modifier.isPublic(f.getModifiers())) {
                constants++;
            } else {
                c.due(f.getName() + " is private", Modifier.isPrivate(f.getModifiers()) ? 1 : 0, 1);
            }
            if (Modifier.isStatic(f.getModifiers())) {
                c.due(f.getName() + " is final", Modifier.isFinal(f.getModifiers()) ? 1 : 0, 1);
            }
        }
        c.due("constants", constants, 4);
        for (Class<?> inside : WhoseDay.class.getDeclaredClasses()) {
            c.due(inside.getName() + " is static", Modifier.isStatic(inside.getModifiers()) ? 1 : 0, 1);
            int fields = 0;
            for (Field f : inside.getDeclaredFields()) {
                fields += Modifier.isStatic(f.getModifiers()) ? 0 : 1;
            }
            c.due(inside.getName() + " has " + fields + " fields", fields <= 20 ? 1 : 0, 1);
        }
    }

    private static void names(Check c) {
        Set<String> open = new HashSet<>();
        for (Method m : WhoseDay.class.getDeclaredMethods()) {
            if (Modifier.isPublic(m.getModifiers())) {
                open.add(m.getName());
            } else {
                c.due(m.getName() + " is private", Modifier.isPrivate(m.getModifiers()) ? 1 : 0, 1);
            }
            c.due(m.getName() + " has few parameters", m.getParameterCount() <= 7 ? 1 : 0, 1);
        }
        c.due("methods of the face", open.size(), 38);
        for (Method m : WhoseDay.class.getDeclaredMethods()) {
            boolean isTaken = !Modifier.isPublic(m.getModifiers()) && open.contains(m.getName());
            c.due(m.getName() + " bears a public name", isTaken ? 1 : 0, 0);
        }
        for (Class<?> inside : WhoseDay.class.getDeclaredClasses()) {
            for (Method m : inside.getDeclaredMethods()) {
                c.due(inside.getName() + "." + m.getName() + " bears a public name", open.contains(m.getName()) ? 1 : 0, 0);
            }
        }
    }

    private static void methodLengths(Check c, String code) {
        String[] lines = code.split("\n");
        int start = -1;
        String indent = "";
        for (int i = 0; i < lines.length; i++) {
            boolean isHead = lines[i].matches(" {4}( {4})?[a-zA-Z].*\\) \\{") && !lines[i].contains("class ");
            if (isHead && start < 0) {
                start = i;
                indent = lines[i].substring(0, lines[i].length() - lines[i].stripLeading().length());
            } else if (start >= 0 && lines[i].equals(indent + "}")) {
                c.due(lines[start].strip() + " has " + (i - start) + " lines", i - start <= 60 ? 1 : 0, 1);
                start = -1;
            }
        }
    }
}
