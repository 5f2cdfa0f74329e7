import java.net.URL;
import java.net.URLClassLoader;
import java.nio.file.Files;
import java.nio.file.Path;
import java.util.Comparator;
import java.util.List;
import java.util.regex.Matcher;
import java.util.regex.Pattern;
import java.util.stream.Stream;
import javax.tools.ToolProvider;

/** The examples of README.md, run, and whether it names every call of the class. */
public final class ReadmeTest {
    private static final Pattern EXAMPLE = Pattern.compile("(?ms)^```java\\n(.*?)^```$");
    /** A call at the line's begin whose comment begins with its answer and a colon. */
    private static final Pattern ANSWERED = Pattern.compile("(?m)^(x\\.\\w+\\(.*\\));\\s+// ([A-Z0-9+ -]+):.*$");
    private static int checks = 0;
    private static int wrong = 0;

    private ReadmeTest() {
    }

    public static void main(String[] args) throws Exception {
        String text = Files.readString(readme());
        Matcher examples = EXAMPLE.matcher(text);
        while (examples.find()) {
            runExample(examples.group(1));
        }
        for (var method : ParoleLedger.class.getMethods()) {
            if (method.getDeclaringClass() == ParoleLedger.class && !text.contains("`" + method.getName() + "(")) {
                report("README.md does not name " + method.getName());
            }
        }
        if (checks == 0) {
            report("README.md has no example");
        }
        System.out.println(checks + " answers of README.md, " + wrong + " wrong");
        if (wrong != 0) {
            System.exit(1);
        }
    }

    private static void report(String what) {
        wrong++;
        System.out.println(what);
    }

    /** Called by the example's own class. */
    public static void due(String call, long got, long want) {
        checks++;
        if (got != want) {
            report("README.md: " + call + " answered " + got + ", told is " + want);
        }
    }

    private static Path readme() {
        for (Path p = Path.of("").toAbsolutePath(); p != null; p = p.getParent()) {
            if (Files.exists(p.resolve("src/main/java/ParoleLedger.java"))) {
                return p.resolve("README.md");
            }
        }
        throw new IllegalStateException("no project");
    }

    /** The example as a class, each call that has an answer in its comment put into due(). */
    private static String asClass(String example) {
        StringBuilder body = new StringBuilder();
        Matcher m = ANSWERED.matcher(example);
        while (m.find()) {
            String answer = m.group(2).replaceAll("[A-Z]+", "ParoleLedger.$0");
            String check = "ReadmeTest.due(\"" + m.group(1) + "\", " + m.group(1) + ", " + answer + ");";
            m.appendReplacement(body, Matcher.quoteReplacement(check));
        }
        m.appendTail(body);
        return "public final class Example { public static void run() {\n" + body + "} }\n";
    }

    private static void runExample(String example) throws Exception {
        Path place = Files.createTempDirectory("readme");
        try {
            Path source = Files.writeString(place.resolve("Example.java"), asClass(example));
            int refused = ToolProvider.getSystemJavaCompiler().run(null, null, null, "-proc:none", "-cp",
                    System.getProperty("java.class.path"), "-d", place.toString(), source.toString());
            if (refused != 0) {
                report("README.md: an example does not compile:\n" + example);
                return;
            }
            try (URLClassLoader loader = new URLClassLoader(new URL[] {place.toUri().toURL()})) {
                loader.loadClass("Example").getMethod("run").invoke(null);
            }
        } finally {
            deleteAll(place);
        }
    }

    private static void deleteAll(Path place) throws Exception {
        List<Path> found;
        try (Stream<Path> walk = Files.walk(place)) {
            found = walk.sorted(Comparator.reverseOrder()).toList();
        }
        for (Path file : found) {
            Files.delete(file);
        }
    }
}
