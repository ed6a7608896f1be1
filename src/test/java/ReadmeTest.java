import java.io.IOException;
import java.lang.reflect.InvocationTargetException;
import java.lang.reflect.Method;
import java.lang.reflect.Modifier;
import java.nio.file.DirectoryStream;
import java.nio.file.Files;
import java.nio.file.Path;
import java.util.ArrayList;
import java.util.List;
import java.util.Set;
import java.util.TreeSet;
import java.util.regex.Matcher;
import java.util.regex.Pattern;
import javax.tools.JavaCompiler;
import javax.tools.ToolProvider;

/**
 * What README.md says: its example compiles, each line answers or throws what the comment behind it says, each call of
 * the face is in it, and its table names the tests that there are. Runs in the project's folder, as .ci/run does.
 */
final class ReadmeTest {
    private static final Path README = Path.of("README.md");
    private static final Path TESTS = Path.of("src", "test", "java");
    private static final Pattern DECLARED = Pattern.compile("\\w+ (\\w+) = .*");
    private static final Pattern TABLE_ROW = Pattern.compile("\\| `(\\w+)` \\|.*");

    private ReadmeTest() {
    }

    public static void main(String[] args) throws IOException, ReflectiveOperationException {
        List<String> readme = Files.readAllLines(README);
        List<String> example = javaLines(readme);
        run(example);
        showsEachCall(example);
        namesTheTests(readme);
        Check.end();
    }

    /** All blocks of Java together, as one run of calls. */
    private static List<String> javaLines(List<String> readme) {
        List<String> lines = new ArrayList<>();
        boolean isJava = false;
        for (String line : readme) {
            if (line.startsWith("```")) {
                isJava = line.equals("```java");
            } else if (isJava) {
                lines.add(line);
            }
        }
        return lines;
    }

    /** Into the folder of this very class: only there the example may use Check, which is no public class. */
    private static void run(List<String> example) throws IOException, ReflectiveOperationException {
        StringBuilder source = new StringBuilder("final class ReadmeExample {\n    static void run() {\n");
        for (String line : example) {
            source.append(checked(line)).append('\n');
        }
        source.append("    }\n}\n");
        Path folder = Files.createTempDirectory("readme");
        Path file = folder.resolve("ReadmeExample.java");
        Files.writeString(file, source);
        String classes = System.getProperty("java.class.path");
        JavaCompiler compiler = ToolProvider.getSystemJavaCompiler();
        int result = compiler.run(null, null, null, "-cp", classes, "-d", classes, file.toString());
        Check.same("compiling the example", result, 0);
        Files.delete(file);
        Files.delete(folder);
        if (result == 0) {
            call();
        }
    }

    private static void call() throws ReflectiveOperationException {
        Method run = Class.forName("ReadmeExample").getDeclaredMethod("run");
        try {
            run.invoke(null);
        } catch (InvocationTargetException thrown) {
            Check.fail("the example threw " + thrown.getCause());
        }
    }

    /** A line of the example, with a look at its answer, if its comment tells one. */
    private static String checked(String line) {
        int comment = line.indexOf("//");
        if (comment < 0) {
            return line;
        }
        String code = line.substring(0, comment).trim();
        String call = code.substring(0, code.length() - 1);
        String said = line.substring(comment + 2).trim();
        if (said.startsWith("throws ")) {
            return "Check.refused(\"" + call + "\", " + firstPart(said, "throws ") + ".class, () -> " + call + ");";
        }
        if (!said.startsWith("answers ")) {
            return line;
        }
        Matcher declared = DECLARED.matcher(call);
        boolean isDeclared = declared.matches();
        String answer = isDeclared ? declared.group(1) : call;
        return (isDeclared ? code : "") + "Check.same(\"" + call + "\", " + answer + ", " + firstPart(said, "answers ")
            + ");";
    }

    /** What stands behind the word, up to a colon: a remark may follow there. */
    private static String firstPart(String said, String word) {
        return said.substring(word.length()).split(":")[0].trim();
    }

    private static void showsEachCall(List<String> example) {
        String all = String.join("\n", example);
        for (Method method : Intergreen.class.getDeclaredMethods()) {
            if (Modifier.isPublic(method.getModifiers())) {
                Check.same("the example calls " + method.getName(), all.contains("." + method.getName() + "("), true);
            }
        }
    }

    private static void namesTheTests(List<String> readme) throws IOException {
        Set<String> named = new TreeSet<>();
        for (String line : readme) {
            Matcher row = TABLE_ROW.matcher(line);
            if (row.matches() && row.group(1).endsWith("Test")) {
                named.add(row.group(1));
            }
        }
        Set<String> there = new TreeSet<>();
        try (DirectoryStream<Path> files = Files.newDirectoryStream(TESTS, "*.java")) {
            for (Path file : files) {
                there.add(file.getFileName().toString().replace(".java", ""));
            }
        }
        Check.text("README.md's table of tests", String.join("\n", named), String.join("\n", there));
    }
}
