import java.io.IOException;
import java.lang.reflect.Field;
import java.lang.reflect.Method;
import java.lang.reflect.Modifier;
import java.nio.file.Files;
import java.nio.file.Path;
import java.util.HashSet;
import java.util.Set;

/** What can be seen of ../shared/LANGUAGE.md from outside: words that must not stand in the class, names, counts. */
public final class LanguageTest {
    private static final String[] RULED_OUT = {"\\bthrow\\b", "\\btry\\b", "\\bcatch\\b", "\\bsynchronized\\b", "\\bassert\\b", "->", "::",
        "\\bSystem\\.(?!arraycopy\\b)", "\\bstatic \\{", "Exact\\(", "\\bequals\\(", "\\bhashCode\\b", "\\btoString\\b", "\" \\+", "\\+ \"",
        "\\bprotected\\b", "\\bpackage\\b"};

    public static void main(String[] args) throws IOException {
        Check check = new Check();
        words(check);
        members(check);
        check.finish();
    }

    private static void words(Check check) throws IOException {
        String text = Files.readString(Path.of("src/main/java/CalledRiver.java"));
        String code = text.replaceAll("(?s)/\\*.*?\\*/", "").replaceAll("//[^\n]*", "");
        for (String word : RULED_OUT) {
            check.due("lines with " + word, code.lines().filter(line -> line.matches(".*" + word + ".*")).count(), 0);
        }
        check.due("imports beside Arrays", code.lines().filter(line -> line.startsWith("import")
                && !line.equals("import java.util.Arrays;")).count(), 0);
    }

    private static void members(Check check) {
        Set<String> face = new HashSet<>();
        for (Method method : CalledRiver.class.getDeclaredMethods()) {
            if (Modifier.isPublic(method.getModifiers())) {
                face.add(method.getName());
            }
        }
        Class<?>[] inside = CalledRiver.class.getDeclaredClasses();
        check.due("classes are at most twelve", inside.length + 1 <= 12, true);
        check.due("too many fields in CalledRiver", fieldsOf(CalledRiver.class) <= 20, true);
        for (Class<?> one : inside) {
            check.due(one + " is static", Modifier.isStatic(one.getModifiers()), true);
            check.due(one + " has at most 20 fields", fieldsOf(one) <= 20, true);
            for (Method method : one.getDeclaredMethods()) {
                check.due(method + " has a name of the face", face.contains(method.getName()), false);
                check.due(method + " has at most seven parameters", method.getParameterCount() <= 7, true);
            }
        }
    }

    private static int fieldsOf(Class<?> one) {
        int count = 0;
        for (Field field : one.getDeclaredFields()) {
            count += Modifier.isStatic(field.getModifiers()) ? 0 : 1;
        }
        return count;
    }
}
