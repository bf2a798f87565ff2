import java.nio.file.Files;
import java.nio.file.Path;
import java.util.ArrayList;
import java.util.List;
import java.util.TreeSet;
import java.util.regex.Matcher;
import java.util.regex.Pattern;
import java.util.stream.Stream;
import javax.tools.ToolProvider;

/** What README.md says is so: its examples are compiled and run, and its list of tests is whole. */
public final class ReadmeTests {
    private static final Pattern BLOCK = Pattern.compile("(?s)```java\n(.*?)```");
    private static final Pattern ANSWER = Pattern.compile("(?m)^(county\\.[^;]*);\\s*// (-?\\d+):.*$");
    private static final Pattern LISTED = Pattern.compile("`([A-Z]\\w+(?:Tests|Edges))`");

    public static void main(String[] args) throws Exception {
        Checks.runAll(ReadmeTests.class);
    }

    private static String readme() throws Exception {
        return Files.readString(Path.of("README.md"));
    }

    private static String examples() throws Exception {
        StringBuilder all = new StringBuilder();
        for (Matcher m = BLOCK.matcher(readme()); m.find();) {
            all.append(m.group(1));
        }
        return all.toString();
    }

    /** Each answer that is told becomes a row: the call, what is told, what it answers. */
    private static String asProgram(String examples) {
        String body = ANSWER.matcher(examples).replaceAll("rows.add(\"$1 \" + $2 + \" \" + $1);");
        return "public final class Example { public static java.util.List<String> rows() {\n"
                + "java.util.List<String> rows = new java.util.ArrayList<>();\n" + body + "return rows; } }\n";
    }

    private static List<?> rowsOf(String program) throws Exception {
        Path at = Files.createTempDirectory("readme");
        Path source = Files.writeString(at.resolve("Example.java"), program);
        int failed = ToolProvider.getSystemJavaCompiler().run(null, System.out, System.out,
                "-cp", System.getProperty("java.class.path"), "-d", at.toString(), source.toString());
        if (failed != 0) {
            Checks.wrong("the examples do not compile");
            return new ArrayList<>();
        }
        try (java.net.URLClassLoader made = new java.net.URLClassLoader(new java.net.URL[] {at.toUri().toURL()})) {
            return (List<?>) made.loadClass("Example").getMethod("rows").invoke(null);
        } finally {
            try (Stream<Path> files = Files.list(at)) {
                for (Path p : files.toList()) {
                    Files.delete(p);
                }
            }
            Files.delete(at);
        }
    }

    static void theExamplesAnswerAsTold() throws Exception {
        String examples = examples();
        List<?> rows = rowsOf(asProgram(examples));
        long told = examples.lines().filter(line -> line.contains("// ")).count();
        Checks.due("answers told", told, rows.size());
        Checks.due("there are examples", 1, told > 0 ? 1 : 0);
        for (Object row : rows) {
            String[] parts = row.toString().split(" ");
            int last = parts.length - 1;
            Checks.due(row.toString(), Long.parseLong(parts[last - 1]), Long.parseLong(parts[last]));
        }
    }

    static void theTestsAreThoseThatAreNamed() throws Exception {
        TreeSet<String> named = new TreeSet<>();
        for (Matcher m = LISTED.matcher(readme()); m.find();) {
            named.add(m.group(1));
        }
        TreeSet<String> there = new TreeSet<>();
        try (Stream<Path> files = Files.list(Path.of("src/test/java"))) {
            files.forEach(p -> there.add(p.getFileName().toString().replace(".java", "")));
        }
        if (!named.equals(there)) {
            Checks.wrong("README.md names " + named + ", there are " + there);
        }
    }
}
