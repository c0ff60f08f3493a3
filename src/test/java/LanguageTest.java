import java.io.DataInputStream;
import java.io.IOException;
import java.io.InputStream;
import java.lang.reflect.Field;
import java.lang.reflect.Method;
import java.lang.reflect.Modifier;
import java.nio.file.Files;
import java.nio.file.Path;
import java.util.HashSet;
import java.util.List;
import java.util.Set;
import java.util.TreeSet;
import java.util.regex.Matcher;
import java.util.regex.Pattern;

/** What a test can see of ../shared/LANGUAGE.md: words that must not stand in the class, the library it uses, names, counts. */
public final class LanguageTest {
    private static final String[] RULED_OUT = {"\\bthrow\\b", "\\btry\\b", "\\bcatch\\b", "\\bsynchronized\\b", "\\bassert\\b", "->", "::",
        "\\bSystem\\.(?!arraycopy\\b)", "\\bstatic \\{", "Exact\\(", "\\bequals\\(", "\\bhashCode\\b", "\\btoString\\b", "\" \\+", "\\+ \"",
        "\\bprotected\\b", "\\bpackage\\b"};
    /** Rule 4, as far as the class needs it; what a newer one needs beside this is to be looked up there first. */
    private static final Set<String> LIBRARY = Set.of("java/lang/Object.<init>", "java/lang/String.length", "java/lang/String.charAt",
            "java/lang/Integer.bitCount", "java/lang/Math.min", "java/lang/Math.max", "java/lang/Math.floorDiv",
            "java/lang/System.arraycopy", "java/util/Arrays.fill");
    private static final Pattern METHOD = Pattern.compile("(?m)^((?:    )?    )(?! |if|for|while|switch)[^\n]*\\) \\{\n(?s:.*?)\n\\1\\}\n");
    private static final int LINES_MOST = 60;

    public static void main(String[] args) throws IOException {
        Check check = new Check();
        String text = Files.readString(Path.of("src/main/java/CalledRiver.java"));
        words(check, text);
        lengths(check, text);
        members(check);
        for (String call : libraryCalls()) {
            check.due("the library's " + call + " may be used", LIBRARY.contains(call), true);
        }
        check.finish();
    }

    private static void words(Check check, String text) {
        String code = text.replaceAll("(?s)/\\*.*?\\*/", "").replaceAll("//[^\n]*", "");
        for (String word : RULED_OUT) {
            check.due("lines with " + word, code.lines().filter(line -> line.matches(".*" + word + ".*")).count(), 0);
        }
        check.due("imports beside Arrays", code.lines().filter(line -> line.startsWith("import")
                && !line.equals("import java.util.Arrays;")).count(), 0);
    }

    private static void lengths(Check check, String text) {
        Matcher method = METHOD.matcher(text);
        int count = 0;
        while (method.find()) {
            count++;
            String first = method.group().lines().findFirst().orElse("").trim();
            check.due("lines are few of " + first, method.group().lines().count() <= LINES_MOST, true);
        }
        check.due("methods were found", count > 100, true);
    }

    private static void members(Check check) {
        Set<String> face = new HashSet<>();
        for (Method method : CalledRiver.class.getDeclaredMethods()) {
            if (Modifier.isPublic(method.getModifiers())) {
                face.add(method.getName());
            }
        }
        for (Method method : CalledRiver.class.getDeclaredMethods()) {
            boolean hidden = !Modifier.isPublic(method.getModifiers());
            check.due(method + " is hidden and has a name of the face", hidden && face.contains(method.getName()), false);
        }
        Class<?>[] inside = CalledRiver.class.getDeclaredClasses();
        check.due("classes are at most twelve", inside.length + 1 <= 12, true);
        check.due("too many fields in CalledRiver", fieldsOf(CalledRiver.class) <= 20, true);
        for (Class<?> one : inside) {
            check.due(one + " is static", Modifier.isStatic(one.getModifiers()), true);
            check.due(one + " has at most 20 fields", fieldsOf(one) <= 20, true);
            for (Method method : one.getDeclaredMethods()) {
                check.due(method + " has a name of the face", face.contains(method.getName()), false);
                check.due(method + " has at most seven parameters", method.getParameterCount() <= 7, true);
            }
        }
    }

    private static int fieldsOf(Class<?> one) {
        int count = 0;
        for (Field field : one.getDeclaredFields()) {
            count += Modifier.isStatic(field.getModifiers()) ? 0 : 1;
            boolean isShared = Modifier.isStatic(field.getModifiers()) && !Modifier.isFinal(field.getModifiers());
            count += isShared ? 1000 : 0;
        }
        return count;
    }

    /** All methods outside the class that it calls, as its compiled files name them. */
    private static Set<String> libraryCalls() throws IOException {
        Set<String> calls = new TreeSet<>();
        addCalls(CalledRiver.class, calls);
        for (Class<?> inside : CalledRiver.class.getDeclaredClasses()) {
            addCalls(inside, calls);
        }
        return calls;
    }

    private static void addCalls(Class<?> one, Set<String> calls) throws IOException {
        try (InputStream file = one.getResourceAsStream(one.getName() + ".class"); DataInputStream in = new DataInputStream(file)) {
            in.readInt();
            in.readInt();
            Object[] pool = readPool(in);
            for (Object entry : pool) {
                if (entry instanceof int[] pair && pair[0] == 10) {
                    int[] owner = (int[]) pool[pair[1]];
                    int[] nameAndType = (int[]) pool[pair[2]];
                    String name = pool[owner[1]] + "." + pool[nameAndType[1]];
                    if (!name.startsWith("CalledRiver")) {
                        calls.add(name);
                    }
                } else if (entry instanceof int[] pair && List.of(11, 15, 16, 17, 18).contains(pair[0])) {
                    calls.add("interface or dynamic call, kind " + pair[0]);
                }
            }
        }
    }

    /** Texts as they are, entries that point to others as their kind and those, numbers as nothing. */
    private static Object[] readPool(DataInputStream in) throws IOException {
        Object[] pool = new Object[in.readUnsignedShort()];
        for (int k = 1; k < pool.length; k++) {
            int kind = in.readUnsignedByte();
            switch (kind) {
                case 1 -> pool[k] = in.readUTF();
                case 3, 4 -> in.readInt();
                case 5, 6 -> {
                    in.readLong();
                    k++; // a long takes two places
                }
                case 7, 8, 16 -> pool[k] = new int[] {kind, in.readUnsignedShort()};
                case 15 -> pool[k] = new int[] {kind, in.readUnsignedByte(), in.readUnsignedShort()};
                default -> pool[k] = new int[] {kind, in.readUnsignedShort(), in.readUnsignedShort()};
            }
        }
        return pool;
    }
}
