import java.io.IOException;
import java.lang.reflect.Method;
import java.lang.reflect.Modifier;
import java.net.URL;
import java.net.URLClassLoader;
import java.nio.file.Files;
import java.nio.file.Path;
import java.util.ArrayList;
import java.util.Comparator;
import java.util.List;
import java.util.regex.Matcher;
import java.util.regex.Pattern;
import java.util.stream.Stream;
import javax.tools.ToolProvider;

/**
 * README.md tells of every call, and its Java answers what stands behind it: the frames of Java are made into one
 * class, in which each call with an answer becomes a check, and that class is compiled and run.
 */
public final class ReadmeTest {
    private static final Path PAGE = Path.of("README.md");
    private static final Pattern STATEMENT = Pattern.compile("(.*;)(?:\\s+// (.*))?");
    private static final Pattern ANSWER = Pattern.compile("(-?\\d+|true|false)\\b.*");
    private static final Pattern VARIABLE = Pattern.compile("\\w+ (\\w+) = .*");
    private static final String THROWN = "throws NoSuchElementException";

    private static int checks = 0;

    private ReadmeTest() {
    }

    public static void main(String[] args) throws Exception {
        List<String> page = Files.readAllLines(PAGE);
        tellsEveryCall(String.join("\n", page));
        Probe.yes("README.md tells the command of the tests", page.contains(".ci/run"));
        StringBuilder members = new StringBuilder();
        StringBuilder statements = new StringBuilder();
        for (List<String> frame : javaFrames(page)) {
            if (frame.get(0).startsWith("static ")) {
                members.append(String.join("\n", frame)).append('\n');
            } else {
                addStatements(frame, statements);
            }
        }
        Probe.yes("README.md has answers to try", checks > 30);
        runPage("public final class Page {\n" + members + "public static void run() {\n" + statements + "}\n}\n");
        Probe.finish("ReadmeTest");
    }

    private static void tellsEveryCall(String page) {
        for (Method m : AuthorityBook.class.getDeclaredMethods()) {
            if (Modifier.isPublic(m.getModifiers())) {
                Probe.yes("README.md tells of " + m.getName(), page.contains("| `" + m.getName() + "("));
            }
        }
    }

    private static List<List<String>> javaFrames(List<String> page) {
        List<List<String>> frames = new ArrayList<>();
        boolean inside = false;
        for (String line : page) {
            if (line.startsWith("```")) {
                inside = line.equals("```java");
                if (inside) {
                    frames.add(new ArrayList<>());
                }
            } else if (inside) {
                frames.get(frames.size() - 1).add(line);
            }
        }
        return frames;
    }

    /** A statement may go on over several lines, up to the one that ends with ; (and has the answer behind it). */
    private static void addStatements(List<String> frame, StringBuilder all) {
        StringBuilder before = new StringBuilder();
        for (String line : frame) {
            Matcher m = STATEMENT.matcher(line);
            if (m.matches()) {
                String code = before + m.group(1);
                all.append(checked(code, m.group(2) == null ? "" : m.group(2))).append('\n');
                before.setLength(0);
            } else {
                before.append(line);
            }
        }
        Probe.yes("a frame of README.md ends with a whole statement", before.length() == 0);
    }

    private static String checked(String code, String comment) {
        String call = code.substring(0, code.length() - 1);
        String name = "\"README.md: " + call.replace("\\", "\\\\").replace("\"", "\\\"") + "\"";
        if (comment.startsWith(THROWN)) {
            checks++;
            return "{ boolean thrown = false; try { " + code + " } catch (java.util.NoSuchElementException e) {"
                + " thrown = true; } ReadmeTest.check(" + name + ", thrown, true); }";
        }
        Matcher answer = ANSWER.matcher(comment);
        if (!answer.matches()) {
            Probe.yes("README.md tells what " + call + " answers", comment.isEmpty());
            return code;
        }
        checks++;
        Matcher variable = VARIABLE.matcher(call);
        String got = variable.matches() ? variable.group(1) : call;
        String check = "ReadmeTest.check(" + name + ", " + got + ", " + answer.group(1) + ");";
        return variable.matches() ? code + " " + check : check;
    }

    /** Public, since the page's class has a loader of its own, for which Probe is out of sight. */
    public static void check(String what, int got, int due) {
        Probe.same(what, got, due);
    }

    public static void check(String what, boolean got, boolean due) {
        Probe.same(what, got ? 1 : 0, due ? 1 : 0);
    }

    private static void runPage(String source) throws Exception {
        Path room = Files.createTempDirectory("readme");
        try {
            Path file = Files.writeString(room.resolve("Page.java"), source);
            String classes = System.getProperty("java.class.path");
            int failed = ToolProvider.getSystemJavaCompiler().run(null, null, null, "-cp", classes, "-d",
                room.toString(), file.toString());
            Probe.same("javac of the Java on README.md", failed, 0);
            if (failed == 0) {
                callRun(room);
            }
        } finally {
            remove(room);
        }
    }

    private static void callRun(Path room) throws Exception {
        try (URLClassLoader loader = new URLClassLoader(new URL[] {room.toUri().toURL()})) {
            loader.loadClass("Page").getMethod("run").invoke(null);
        }
    }

    private static void remove(Path room) throws IOException {
        try (Stream<Path> all = Files.walk(room)) {
            for (Path path : all.sorted(Comparator.reverseOrder()).toList()) {
                Files.delete(path);
            }
        }
    }
}
