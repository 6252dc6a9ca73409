import java.io.StringWriter;
import java.lang.reflect.Method;
import java.lang.reflect.Modifier;
import java.net.URL;
import java.net.URLClassLoader;
import java.nio.file.Files;
import java.nio.file.Path;
import java.util.ArrayList;
import java.util.Comparator;
import java.util.List;
import java.util.TreeSet;
import java.util.regex.Matcher;
import java.util.regex.Pattern;
import java.util.stream.Stream;
import javax.tools.JavaCompiler;
import javax.tools.ToolProvider;

/** README.md: its program compiles and answers what the page shows, it shows every call, and lists every test. */
public final class ReadmeTest {
    private static final Pattern SHOWN = Pattern.compile("(land\\.(\\w+)\\(.*?\\)); +// (-?\\d+)(:.*)?");

    private final List<String> calls = new ArrayList<>();
    private final List<Long> shown = new ArrayList<>();
    private final TreeSet<String> names = new TreeSet<>();

    public static void main(String[] args) throws Exception {
        String page = Files.readString(Path.of("README.md"));
        ReadmeTest test = new ReadmeTest();
        String program = test.program(page);
        test.compare(answers(program));
        test.showsEveryCall();
        tests(page);
        constants(page);
        Check.end();
    }

    /** The page's blocks one behind the other; a call with an answer is put to a list of answers. */
    private String program(String page) {
        StringBuilder members = new StringBuilder();
        StringBuilder body = new StringBuilder();
        Matcher blocks = Pattern.compile("(?s)```java\n(.*?)```").matcher(page);
        while (blocks.find()) {
            boolean isMember = blocks.group(1).startsWith("static ");
            for (String line : blocks.group(1).split("\n")) {
                (isMember ? members : body).append(isMember ? line : statement(line)).append('\n');
            }
        }
        return "public final class Page {\n" + members
            + "public static java.util.List<Long> answers() {\n"
            + "java.util.List<Long> answers = new java.util.ArrayList<>();\n" + body + "return answers;\n}\n}\n";
    }

    private String statement(String line) {
        Matcher matcher = SHOWN.matcher(line);
        boolean isShown = matcher.matches();
        Check.holds("README shows an answer: " + line, isShown || !line.startsWith("land."));
        if (!isShown) {
            return line;
        }
        calls.add(matcher.group(1));
        names.add(matcher.group(2));
        shown.add(Long.parseLong(matcher.group(3)));
        return "answers.add((long) " + matcher.group(1) + ");";
    }

    private static List<Long> answers(String program) throws Exception {
        Path folder = Files.createTempDirectory("readme");
        try {
            Path source = Files.writeString(folder.resolve("Page.java"), program);
            JavaCompiler compiler = ToolProvider.getSystemJavaCompiler();
            StringWriter said = new StringWriter();
            List<String> options = List.of("--release", "17", "-d", folder.toString(), "-cp",
                System.getProperty("java.class.path"));
            var files = compiler.getStandardFileManager(null, null, null).getJavaFileObjects(source);
            boolean compiles = compiler.getTask(said, null, null, options, null, files).call();
            Check.holds("README's program compiles: " + said, compiles);
            return compiles ? run(folder) : List.of();
        } finally {
            remove(folder);
        }
    }

    private static List<Long> run(Path folder) throws Exception {
        List<Long> answers = new ArrayList<>();
        try (URLClassLoader loader = new URLClassLoader(new URL[] {folder.toUri().toURL()})) {
            Object list = loader.loadClass("Page").getMethod("answers").invoke(null);
            for (Object answer : (List<?>) list) {
                answers.add((Long) answer);
            }
        }
        return answers;
    }

    private static void remove(Path folder) throws Exception {
        try (Stream<Path> files = Files.walk(folder)) {
            for (Path file : files.sorted(Comparator.reverseOrder()).toList()) {
                Files.delete(file);
            }
        }
    }

    private void compare(List<Long> answers) {
        Check.due("answers of README's program", answers.size(), shown.size());
        for (int k = 0; k < Math.min(shown.size(), answers.size()); k++) {
            Check.due("README " + calls.get(k), answers.get(k), shown.get(k));
        }
    }

    private void showsEveryCall() {
        for (Method method : DryLand.class.getDeclaredMethods()) {
            boolean isPublic = Modifier.isPublic(method.getModifiers());
            Check.holds("README shows " + method.getName(), !isPublic || names.contains(method.getName()));
        }
    }

    private static void tests(String page) throws Exception {
        TreeSet<String> listed = new TreeSet<>();
        Matcher rows = Pattern.compile("(?m)^\\| `(\\w+Test)` \\|").matcher(page);
        while (rows.find()) {
            listed.add(rows.group(1));
        }
        TreeSet<String> are = new TreeSet<>();
        try (Stream<Path> files = Files.list(Path.of("src/test/java"))) {
            files.map(file -> file.getFileName().toString()).filter(name -> name.endsWith("Test.java"))
                .forEach(name -> are.add(name.replace(".java", "")));
        }
        Check.holds("README lists the tests " + are + ": " + listed, listed.equals(are));
    }

    private static void constants(String page) throws Exception {
        Matcher rows = Pattern.compile("(?m)^\\| (-\\d+) \\| `(\\w+)` \\|").matcher(page);
        int found = 0;
        while (rows.find()) {
            found++;
            Check.due(rows.group(2), DryLand.class.getField(rows.group(2)).getInt(null), Long.parseLong(rows.group(1)));
        }
        Check.due("constants in README's table", found, 4);
        Check.holds("LOST", DryLand.LOST == Long.MIN_VALUE && page.contains("`Long.MIN_VALUE` | `LOST`"));
        Check.holds("NONE", DryLand.NONE == -9 && page.contains("`NONE`, -9"));
    }
}
