import java.io.IOException;
import java.net.URL;
import java.net.URLClassLoader;
import java.nio.file.Files;
import java.nio.file.Path;
import java.util.ArrayList;
import java.util.List;
import java.util.Set;
import java.util.TreeSet;
import java.util.regex.Matcher;
import java.util.regex.Pattern;
import java.util.stream.Collectors;
import java.util.stream.Stream;
import javax.tools.JavaCompiler;
import javax.tools.ToolProvider;

/** The examples of README.md, compiled as they stand there: each answers as it says. */
public final class ReadmeTest {
    private static final Pattern BLOCK = Pattern.compile("(?ms)^```java\n(.*?)^```$");
    private static final Pattern ANSWER = Pattern.compile("(\\w+\\.\\w+\\([^)]*\\)); +// ([A-Z\\d +-]+): .+");
    private static final Pattern SILENT = Pattern.compile("HungMobile \\w+ = new HungMobile\\(\\);|write\\(\\w+, \"[^\"]+\"\\);");

    public static void main(String[] args) throws Exception {
        String page = Files.readString(Path.of("README.md"));
        theExamples(page);
        theTests(page);
        Due.end();
    }

    private static void theExamples(String page) throws Exception {
        List<String> helpers = new ArrayList<>();
        List<String> lines = new ArrayList<>();
        Matcher block = BLOCK.matcher(page);
        while (block.find()) {
            if (block.group(1).startsWith("static ")) {
                helpers.add(block.group(1));
            } else {
                block.group(1).lines().forEach(line -> lines.add(asked(line)));
            }
        }
        for (Object[] told : run(sourceOf(helpers, lines))) {
            Due.is("README: " + told[0], (Long) told[1], (Long) told[2]);
        }
        for (String name : List.of("rod", "thing", "letter", "fault", "mobile", "blank", "lay", "see", "restore")) {
            Due.holds("an example of " + name, page.contains("." + name + "("));
        }
    }

    /** A line of an example, as one that keeps what it answers and what it says. */
    private static String asked(String line) {
        Matcher answer = ANSWER.matcher(line);
        if (!answer.matches()) {
            Due.holds("README says what this answers: " + line, SILENT.matcher(line).matches());
            return line;
        }
        String due = answer.group(2).replaceAll("[A-Z]+", "HungMobile.$0");
        String call = answer.group(1);
        return "told.add(new Object[] {\"" + call + "\", (long) " + call + ", (long) (" + due + ")});";
    }

    private static String sourceOf(List<String> helpers, List<String> lines) {
        return "public final class ReadmeExamples {\n" + String.join("\n", helpers)
                + "public static java.util.List<Object[]> run() {\n"
                + "java.util.List<Object[]> told = new java.util.ArrayList<>();\n"
                + String.join("\n", lines) + "\nreturn told;\n}\n}\n";
    }

    @SuppressWarnings("unchecked")
    private static List<Object[]> run(String source) throws Exception {
        Path out = Files.createTempDirectory("readme");
        try {
            Path file = out.resolve("ReadmeExamples.java");
            Files.writeString(file, source);
            JavaCompiler compiler = ToolProvider.getSystemJavaCompiler();
            int code = compiler.run(null, null, null, "-cp", System.getProperty("java.class.path"), "-d", out.toString(), file.toString());
            Due.is("javac of README's examples", code, 0);
            if (code != 0) {
                return List.of();
            }
            try (URLClassLoader loader = new URLClassLoader(new URL[] {out.toUri().toURL()})) {
                List<Object[]> told = (List<Object[]>) loader.loadClass("ReadmeExamples").getMethod("run").invoke(null);
                Due.holds("examples were found", told.size() > 50);
                return told;
            }
        } finally {
            delete(out);
        }
    }

    private static void delete(Path directory) throws IOException {
        try (Stream<Path> files = Files.list(directory)) {
            for (Path file : files.toList()) {
                Files.delete(file);
            }
        }
        Files.delete(directory);
    }

    /** README names each test that there is, and none that there is not. */
    private static void theTests(String page) throws IOException {
        Set<String> named = new TreeSet<>();
        Matcher name = Pattern.compile("(?m)^\\| `(\\w+)` \\|").matcher(page);
        while (name.find()) {
            if (name.group(1).endsWith("Test")) {
                named.add(name.group(1));
            }
        }
        try (Stream<Path> files = Files.list(Path.of("src/test/java"))) {
            Set<String> there = files.map(file -> file.getFileName().toString()).filter(file -> file.endsWith("Test.java"))
                    .map(file -> file.replace(".java", "")).collect(Collectors.toCollection(TreeSet::new));
            Due.holds("README names the tests " + there, there.equals(named));
        }
    }
}
