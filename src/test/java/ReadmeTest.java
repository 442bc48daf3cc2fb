import java.io.IOException;
import java.io.StringWriter;
import java.lang.reflect.InvocationTargetException;
import java.lang.reflect.Method;
import java.lang.reflect.Modifier;
import java.net.URL;
import java.net.URLClassLoader;
import java.nio.file.DirectoryStream;
import java.nio.file.Files;
import java.nio.file.Path;
import java.util.ArrayList;
import java.util.List;
import java.util.TreeSet;
import java.util.regex.Matcher;
import java.util.regex.Pattern;
import javax.tools.JavaCompiler;
import javax.tools.ToolProvider;

/**
 * README.md holds: its lines of Java compile, and each call answers what stands behind it; each call, refusal and test
 * is named on it, and no test that isn't there. Runs at the checkout's root.
 */
public final class ReadmeTest {
    private static final Due due = new Due("ReadmeTest");
    private static final Pattern BLOCK = Pattern.compile("```java\n(.*?)```", Pattern.DOTALL);
    private static final Pattern ANSWERED = Pattern.compile("^(x\\.\\w+\\(.*\\));\\s*// (-?\\d+)(?![\\w-]).*$");
    private static final int[] REFUSALS = {-1, -2, -3, -4, -11, -12, -13, -14, -15};

    public static void main(String[] args) throws Exception {
        String page = Files.readString(Path.of("README.md"));
        linesOfJava(page);
        calls(page);
        refusals(page);
        tests(page);
        due.end();
    }

    private static void linesOfJava(String page) throws Exception {
        StringBuilder body = new StringBuilder();
        int answers = 0;
        Matcher blocks = BLOCK.matcher(page);
        while (blocks.find()) {
            for (String line : blocks.group(1).split("\n")) {
                Matcher m = ANSWERED.matcher(line);
                boolean answered = m.matches();
                answers += answered ? 1 : 0;
                due.holds("an answer stands behind \"" + line + "\"", answered || !line.startsWith("x."));
                body.append(answered ? asked(m.group(1), m.group(2)) : line).append('\n');
            }
        }
        due.holds("README.md shows how the class is used", answers >= 20);
        run("public final class ReadmeLines {\n    public static void run(java.util.List<Object[]> answers) {\n"
                + body + "    }\n}\n");
    }

    private static String asked(String call, String answer) {
        String told = call.replace("\\", "\\\\").replace("\"", "\\\"");
        return "answers.add(new Object[] {\"" + told + "\", (long) " + call + ", " + answer + "L});";
    }

    /** What the lines answered comes in a list, since another loader's classes may not see Due. */
    private static void run(String source) throws Exception {
        List<Object[]> answers = new ArrayList<>();
        Path folder = Files.createTempDirectory("readme");
        try {
            Path file = Files.writeString(folder.resolve("ReadmeLines.java"), source);
            if (compiles(file, folder)) {
                try (URLClassLoader loader = new URLClassLoader(new URL[] {folder.toUri().toURL()})) {
                    loader.loadClass("ReadmeLines").getMethod("run", List.class).invoke(null, answers);
                } catch (InvocationTargetException e) {
                    due.holds("README.md's lines throw nothing: " + e.getCause(), false);
                }
            }
        } finally {
            clear(folder);
        }
        for (Object[] answer : answers) {
            due.is("README.md: " + answer[0], (long) answer[1], (long) answer[2]);
        }
    }

    private static boolean compiles(Path file, Path folder) {
        JavaCompiler javac = ToolProvider.getSystemJavaCompiler();
        StringWriter said = new StringWriter();
        boolean well = javac.getTask(said, null, null,
                List.of("-d", folder.toString(), "-cp", System.getProperty("java.class.path")), null,
                javac.getStandardFileManager(null, null, null).getJavaFileObjects(file)).call();
        due.holds("README.md's lines compile: " + said, well);
        return well;
    }

    private static void clear(Path folder) throws IOException {
        List<Path> all = new ArrayList<>();
        try (DirectoryStream<Path> files = Files.newDirectoryStream(folder)) {
            files.forEach(all::add);
        }
        all.add(folder);
        for (Path file : all) {
            Files.delete(file);
        }
    }

    private static void calls(String page) {
        for (Method m : MilkDesk.class.getDeclaredMethods()) {
            if (Modifier.isPublic(m.getModifiers())) {
                due.holds("README.md names `" + m.getName() + "`", page.contains("`" + m.getName() + "`"));
            }
        }
    }

    private static void refusals(String page) {
        for (int refusal : REFUSALS) {
            due.holds("README.md tells why " + refusal, page.contains("\n| " + refusal + " | "));
        }
        due.holds("README.md tells of FAULTS", page.contains("\n| -100 less a place | "));
        due.holds("README.md tells of lower refusals", page.contains("-1000000001"));
    }

    private static void tests(String page) throws IOException {
        due.holds("README.md says how to run the tests", page.contains("\nbash .ci/run\n"));
        TreeSet<String> named = new TreeSet<>();
        Matcher rows = Pattern.compile("\n\\| (\\w+Test) \\|").matcher(page);
        while (rows.find()) {
            named.add(rows.group(1));
        }
        TreeSet<String> there = new TreeSet<>();
        try (DirectoryStream<Path> files = Files.newDirectoryStream(Path.of("src/test/java"), "*Test.java")) {
            for (Path file : files) {
                there.add(file.getFileName().toString().replace(".java", ""));
            }
        }
        due.holds("README.md names the tests that are there, " + there + ", and no others: " + named, there.equals(named));
    }
}
