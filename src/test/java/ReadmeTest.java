import java.io.File;
import java.lang.reflect.Method;
import java.lang.reflect.Modifier;
import java.nio.file.Files;
import java.nio.file.Path;
import java.util.regex.Matcher;
import java.util.regex.Pattern;
import javax.tools.ToolProvider;

/** README.md: its code compiles, its calls answer what stands behind them, and it names each call of the face. */
public final class ReadmeTest {
    private static final Pattern BLOCK = Pattern.compile("(?s)```java\n(.*?)```");
    private static final Pattern CALL = Pattern.compile("(?m)^river\\.(\\w+\\(.*\\)); +// (-?\\d+|true|false): .*$");

    public static void main(String[] args) throws Exception {
        Check check = new Check();
        String page = Files.readString(Path.of("README.md"));
        example(check, page);
        for (Method method : CalledRiver.class.getDeclaredMethods()) {
            if (Modifier.isPublic(method.getModifiers())) {
                check.due("README.md names " + method.getName(), isListed(page, method.getName()), true);
            }
        }
        check.due("README.md says how to run the tests", page.contains("\n.ci/run\n"), true);
        check.finish();
    }

    private static boolean isListed(String page, String name) {
        return Pattern.compile("(?m)^\\| `[a-z ]*\\b" + name + "\\b[a-z ]*` \\|").matcher(page).find();
    }

    private static void example(Check check, String page) throws Exception {
        Matcher block = BLOCK.matcher(page);
        String lay = block.find() ? block.group(1) : "";
        String calls = block.find() ? block.group(1) : "";
        long answers = CALL.matcher(calls).results().count();
        check.due("calls with an answer behind them", answers, calls.lines().filter(line -> line.startsWith("river.")).count());
        check.due("there are such calls", answers > 0, true);
        String body = CALL.matcher(calls).replaceAll("check.due(\"$1 of README.md\", river.$1, $2);");
        if (compiles("final class ReadmeExample {\n" + lay + "static void run(Check check) {\n" + body + "}\n}\n")) {
            Class.forName("ReadmeExample").getDeclaredMethod("run", Check.class).invoke(null, check);
        } else {
            check.due("the code of README.md compiles", false, true);
        }
    }

    /** It goes beside the classes of the tests, so that it can use a Check as they do. */
    private static boolean compiles(String code) throws Exception {
        String here = new File(CalledRiver.class.getProtectionDomain().getCodeSource().getLocation().toURI()).getPath();
        Path folder = Files.createTempDirectory("readme");
        Path file = folder.resolve("ReadmeExample.java");
        Files.writeString(file, code);
        int exit = ToolProvider.getSystemJavaCompiler().run(null, null, null, "-cp", here, "-d", here, file.toString());
        Files.delete(file);
        Files.delete(folder);
        return exit == 0;
    }
}
