import java.io.ByteArrayOutputStream;
import java.io.IOException;
import java.lang.reflect.Method;
import java.lang.reflect.Modifier;
import java.net.URL;
import java.net.URLClassLoader;
import java.nio.file.DirectoryStream;
import java.nio.file.Files;
import java.nio.file.Path;
import java.util.List;
import java.util.Map;
import java.util.TreeSet;
import java.util.regex.Matcher;
import java.util.regex.Pattern;
import javax.tools.JavaCompiler;
import javax.tools.ToolProvider;

/**
 * Does what README.md shows of the class. Its blocks of Java are compiled as they stand, one behind the other; each line
 * that is a call must tell the answer behind it ("// answer" or "// answer: why"), and the call must answer just that. A
 * block of text is what print() wrote latest.
 */
public final class ReadmeTest {
    private static final Pattern CALL =
        Pattern.compile("((?:x|new WatermarkJoin\\(\\))\\.(\\w+)\\(.*\\));\\s*(?://\\s*([^:]*).*)?");
    private static final Map<String, Long> CONSTANTS = Map.of("BAD", (long) WatermarkJoin.BAD,
        "GONE", (long) WatermarkJoin.GONE, "STOPPED", (long) WatermarkJoin.STOPPED, "FULL", (long) WatermarkJoin.FULL,
        "PAST", (long) WatermarkJoin.PAST, "START", WatermarkJoin.START, "END", WatermarkJoin.END);
    private static final TreeSet<String> shownCalls = new TreeSet<>();
    private static final TreeSet<String> shownConstants = new TreeSet<>();

    private ReadmeTest() {
    }

    /** Called by what is made of README.md. */
    public static void shown(int line, String call, String due, Object answer) {
        Long constant = CONSTANTS.get(due);
        Check.due("README.md, line " + line + ": " + call, constant == null ? due : constant.toString(), answer.toString());
    }

    /** Called by what is made of README.md. */
    public static void page(int line, WatermarkJoin x, String due) {
        StringBuilder page = new StringBuilder();
        for (int i = 0; i <= due.length() && x.letter(i) >= 0; i++) {
            page.append((char) x.letter(i));
        }
        Check.due("README.md, line " + line + ": what was written", due, page.toString());
    }

    private static String quoted(String text) {
        return "\"" + text.replace("\\", "\\\\").replace("\"", "\\\"").replace("\n", "\\n") + "\"";
    }

    private static String codeOf(int line, String shown) {
        Matcher call = CALL.matcher(shown);
        if (!call.matches()) {
            boolean isCall = shown.startsWith("x.") || shown.startsWith("new ");
            Check.due("README.md, line " + line + " is no call that can be asked: " + shown, false, isCall);
            return shown + "\n";
        }
        String due = call.group(3) == null ? "" : call.group(3).strip();
        Check.due("README.md, line " + line + " tells an answer", false, due.isEmpty());
        shownCalls.add(call.group(2));
        shownConstants.add(due);
        String start = "ReadmeTest.shown(" + line + ", " + quoted(call.group(1)) + ", " + quoted(due) + ", ";
        return "try { " + start + call.group(1) + "); } catch (RuntimeException e) { " + start
            + "e.getClass().getSimpleName()); }\n";
    }

    private static String programOf(List<String> readme) {
        StringBuilder program = new StringBuilder("public final class ReadmeShows {\npublic static void main(String[] args) {\n");
        StringBuilder page = new StringBuilder();
        String block = "";
        for (int i = 0; i < readme.size(); i++) {
            String line = readme.get(i);
            if (line.startsWith("```")) {
                if (block.equals("text")) {
                    program.append("ReadmeTest.page(").append(i).append(", x, ").append(quoted(page.toString())).append(");\n");
                    page.setLength(0);
                }
                block = block.isEmpty() ? line.substring(3) : "";
            } else if (block.equals("java")) {
                program.append(codeOf(i + 1, line));
            } else if (block.equals("text")) {
                page.append(line).append('\n');
            }
        }
        return program.append("}\n}\n").toString();
    }

    private static void compileAndRun(String program) throws Exception {
        Path folder = Files.createTempDirectory("readme");
        Path file = folder.resolve("ReadmeShows.java");
        try {
            Files.writeString(file, program);
            JavaCompiler compiler = ToolProvider.getSystemJavaCompiler();
            ByteArrayOutputStream said = new ByteArrayOutputStream();
            int failed = compiler.run(null, said, said, "-cp", System.getProperty("java.class.path"), "-d", folder.toString(),
                file.toString());
            Check.due("javac, of what README.md shows: " + said, 0, failed);
            if (failed == 0) {
                try (URLClassLoader loader = new URLClassLoader(new URL[] {folder.toUri().toURL()})) {
                    loader.loadClass("ReadmeShows").getMethod("main", String[].class).invoke(null, (Object) new String[0]);
                }
            }
        } finally {
            Files.deleteIfExists(folder.resolve("ReadmeShows.class"));
            Files.deleteIfExists(file);
            Files.deleteIfExists(folder);
        }
    }

    private static void allIsShown() {
        for (Method method : WatermarkJoin.class.getDeclaredMethods()) {
            if (Modifier.isPublic(method.getModifiers())) {
                String name = method.getName();
                Check.due("README.md shows what " + name + "() answers", true, shownCalls.contains(name));
            }
        }
        for (String constant : CONSTANTS.keySet()) {
            Check.due("README.md shows a call that answers " + constant, true, shownConstants.contains(constant));
        }
    }

    private static void testsAreNamed(List<String> readme) throws IOException {
        String text = String.join("\n", readme);
        Check.due("README.md says how to run the tests", true, readme.contains(".ci/run"));
        Check.due(".ci/run can be run", true, Files.isExecutable(Path.of(".ci/run")));
        try (DirectoryStream<Path> tests = Files.newDirectoryStream(Path.of("src/test/java"), "*Test.java")) {
            for (Path test : tests) {
                String name = test.getFileName().toString().replace(".java", "");
                Check.due("README.md names " + name, true, text.contains("`" + name + "`"));
            }
        }
    }

    public static void main(String[] args) throws Exception {
        List<String> readme = Files.readAllLines(Path.of("README.md"));
        compileAndRun(programOf(readme));
        allIsShown();
        testsAreNamed(readme);
        Check.finish();
    }
}
