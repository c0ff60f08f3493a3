import java.io.IOException;
import java.lang.reflect.Constructor;
import java.lang.reflect.Executable;
import java.lang.reflect.Field;
import java.lang.reflect.Method;
import java.lang.reflect.Modifier;
import java.nio.file.Files;
import java.nio.file.Path;
import java.util.StringJoiner;
import java.util.TreeSet;
import java.util.Set;

/** "The public face": the class has what the document prints there, to the last type, and nothing else is seen of it. */
public final class FaceTest {
    public static void main(String[] args) throws Exception {
        Check check = new Check();
        Set<String> asked = asked();
        Set<String> seen = seen();
        check.due("lines of the face", asked.size(), 38);
        for (String one : asked) {
            check.due("the class has " + one, seen.contains(one), true);
        }
        for (String one : seen) {
            check.due("the document has " + one, asked.contains(one), true);
        }
        check.due("it is no other's child", CalledRiver.class.getSuperclass() == Object.class, true);
        check.due("interfaces", CalledRiver.class.getInterfaces().length, 0);
        check.due("it has no package", CalledRiver.class.getPackageName().isEmpty(), true);
        for (Class<?> inside : CalledRiver.class.getDeclaredClasses()) {
            int modifiers = inside.getModifiers();
            check.due(inside + " is seen", Modifier.isPublic(modifiers) || Modifier.isProtected(modifiers), false);
        }
        check.finish();
    }

    /** The document's lines, parameters by their types alone. */
    private static Set<String> asked() throws IOException {
        String text = Files.readString(Path.of("../shared/DOC.md"));
        int from = text.indexOf("```java");
        String block = text.substring(from, text.indexOf("\n```", from));
        Set<String> lines = new TreeSet<>();
        for (String line : block.split("\n")) {
            if (line.trim().startsWith("public")) {
                lines.add(line.trim().replaceAll("(\\(|, )(\\w+) \\w+", "$1$2").replaceAll("L?;$| \\{$", ""));
            }
        }
        return lines;
    }

    private static Set<String> seen() throws IllegalAccessException {
        Set<String> lines = new TreeSet<>();
        lines.add(Modifier.toString(CalledRiver.class.getModifiers()) + " class CalledRiver");
        for (Field field : CalledRiver.class.getDeclaredFields()) {
            if (!Modifier.isPrivate(field.getModifiers())) {
                lines.add(Modifier.toString(field.getModifiers()) + " " + field.getType() + " " + field.getName() + " = " + field.get(null));
            }
        }
        for (Constructor<?> constructor : CalledRiver.class.getDeclaredConstructors()) {
            lines.add(Modifier.toString(constructor.getModifiers()) + " CalledRiver" + typesOf(constructor));
        }
        for (Method method : CalledRiver.class.getDeclaredMethods()) {
            if (!Modifier.isPrivate(method.getModifiers())) {
                lines.add(Modifier.toString(method.getModifiers()) + " " + method.getReturnType() + " " + method.getName() + typesOf(method));
            }
        }
        return lines;
    }

    private static String typesOf(Executable one) {
        StringJoiner types = new StringJoiner(", ", "(", ")");
        for (Class<?> type : one.getParameterTypes()) {
            types.add(type.getName());
        }
        return types.toString();
    }
}
