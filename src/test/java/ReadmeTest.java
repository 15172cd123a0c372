import java.io.IOException;
import java.lang.reflect.Method;
import java.lang.reflect.Modifier;
import java.net.URL;
import java.net.URLClassLoader;
import java.nio.file.Files;
import java.nio.file.Path;
import java.util.ArrayList;
import java.util.Comparator;
import java.util.List;
import java.util.Set;
import java.util.TreeSet;
import java.util.regex.Matcher;
import java.util.regex.Pattern;
import java.util.stream.Collectors;
import java.util.stream.Stream;
import javax.tools.JavaCompiler;
import javax.tools.ToolProvider;

/**
 * What README.md shows: its Java is one program, whose every call must answer what stands behind it.
 * The program is compiled as it stands there, so that a reader who copies it gets what the page says.
 */
public final class ReadmeTest {
    /** A call at the start of a line, and behind it its answer, which ends at a colon or with the line. */
    private static final Pattern SHOWN = Pattern.compile("x\\.(\\w+)\\((.*)\\); +// (-?[\\w.]+)(: .+)?");
    private static final Pattern CONSTANT = Pattern.compile("`TowerTell\\.(\\w+)`, (-?\\d+)");
    private static final Pattern ANY_TEST = Pattern.compile("`(\\w+Test)`");
    private static final Checks c = new Checks();

    private final List<String> calls = new ArrayList<>();
    private final Set<String> names = new TreeSet<>();
    private final StringBuilder program = new StringBuilder();

    public static void main(String[] args) throws Exception {
        List<String> page = Files.readAllLines(Path.of("README.md"));
        ReadmeTest test = new ReadmeTest();
        test.take(page);
        test.run();
        test.showsTheFace();
        tellsTheConstants(String.join("\n", page));
        namesTheTests(String.join("\n", page));
        c.end("ReadmeTest");
    }

    private void take(List<String> page) {
        c.begin("README.md");
        boolean inside = false;
        for (int at = 0; at < page.size(); at++) {
            String line = page.get(at);
            if (line.startsWith("```")) {
                inside = line.equals("```java");
            } else if (inside) {
                takeLine(at + 1, line);
            }
        }
        truth("the last block has an end", !inside);
    }

    private void takeLine(int number, String line) {
        Matcher shown = SHOWN.matcher(line);
        if (shown.matches()) {
            String call = "x." + shown.group(1) + "(" + shown.group(2) + ")";
            names.add(shown.group(1));
            calls.add("line " + number + ": " + call);
            program.append("answers.add(new long[] {" + call + ", " + shown.group(3) + "});\n");
        } else {
            truth("line " + number + " shows an answer: " + line, !line.startsWith("x."));
            program.append(line).append('\n');
        }
    }

    private void run() throws Exception {
        Path folder = Files.createTempDirectory("readme");
        try {
            if (compiles(folder)) {
                compare(answersOf(folder));
            }
        } finally {
            remove(folder);
        }
    }

    private boolean compiles(Path folder) throws IOException {
        Path file = folder.resolve("Readme.java");
        Files.writeString(file, "public final class Readme {\n"
                + "public static java.util.List<long[]> run() {\n"
                + "java.util.List<long[]> answers = new java.util.ArrayList<>();\n"
                + program + "return answers;\n}\n}\n");
        JavaCompiler javac = ToolProvider.getSystemJavaCompiler();
        truth("there is a javac", javac != null);
        if (javac == null) {
            return false;
        }
        int code = javac.run(null, null, null, "--release", "17", "-cp", System.getProperty("java.class.path"),
                "-d", folder.toString(), file.toString());
        c.due("javac of its Java", code, 0);
        return code == 0;
    }

    private static List<?> answersOf(Path folder) throws Exception {
        URL[] where = {folder.toUri().toURL()};
        try (URLClassLoader loader = new URLClassLoader(where, ReadmeTest.class.getClassLoader())) {
            return (List<?>) loader.loadClass("Readme").getMethod("run").invoke(null);
        }
    }

    private void compare(List<?> answers) {
        c.due("calls that were made", answers.size(), calls.size());
        for (int k = 0; k < answers.size() && k < calls.size(); k++) {
            long[] pair = (long[]) answers.get(k);
            c.due(calls.get(k), pair[0], pair[1]);
        }
    }

    private void showsTheFace() {
        for (Method m : TowerTell.class.getDeclaredMethods()) {
            if (Modifier.isPublic(m.getModifiers())) {
                truth(m.getName() + " is shown with an answer", names.contains(m.getName()));
            }
        }
    }

    private static void tellsTheConstants(String page) throws ReflectiveOperationException {
        Matcher told = CONSTANT.matcher(page);
        int seen = 0;
        for (; told.find(); seen++) {
            c.due(told.group(1), TowerTell.class.getField(told.group(1)).getLong(null), Long.parseLong(told.group(2)));
        }
        c.due("constants that are told with their number", seen, 5);
    }

    private static void namesTheTests(String page) throws IOException {
        Set<String> named = ANY_TEST.matcher(page).results()
                .map(found -> found.group(1)).collect(Collectors.toCollection(TreeSet::new));
        Set<String> there;
        try (Stream<Path> files = Files.list(Path.of("src/test/java"))) {
            there = files.map(file -> file.getFileName().toString()).filter(name -> name.endsWith("Test.java"))
                    .map(name -> name.substring(0, name.length() - ".java".length()))
                    .collect(Collectors.toCollection(TreeSet::new));
        }
        truth("it names each test that there is: " + named + ", " + there, named.equals(there));
    }

    private static void remove(Path folder) throws IOException {
        List<Path> parts;
        try (Stream<Path> all = Files.walk(folder)) {
            parts = all.sorted(Comparator.reverseOrder()).collect(Collectors.toList());
        }
        for (Path part : parts) {
            Files.delete(part);
        }
    }

    private static void truth(String what, boolean so) {
        c.due(what, so ? 1 : 0, 1);
    }
}
