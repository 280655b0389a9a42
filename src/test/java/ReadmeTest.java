import java.io.File;
import java.io.PrintWriter;
import java.lang.reflect.Method;
import java.lang.reflect.Modifier;
import java.net.URL;
import java.net.URLClassLoader;
import java.nio.file.Files;
import java.nio.file.Path;
import java.util.ArrayList;
import java.util.HashSet;
import java.util.List;
import java.util.Set;
import java.util.regex.Matcher;
import java.util.regex.Pattern;
import java.util.spi.ToolProvider;
import java.util.stream.Stream;

/**
 * README.md is true: its examples compile as they stand, every call in them answers what is written behind it,
 * no call of the face is left out; the refusals and the tests are those that there are. Run from the project's
 * folder.
 */
public final class ReadmeTest {
    private static final Due due = new Due("ReadmeTest");
    private static final Pattern BLOCK = Pattern.compile("```java\n(.*?)```", Pattern.DOTALL);
    private static final Pattern CALL = Pattern.compile("x\\.(\\w+)(\\([^;]*\\)); *// (-?\\d+|BAD|STATE|FULL|NONE): .+");
    private static final String BEGINNING = "WildLevels x = new WildLevels();";

    private record Told(String call, int answer) { }

    private final List<Told> told = new ArrayList<>();
    private final Set<String> names = new HashSet<>();
    private final StringBuilder code = new StringBuilder();
    private int examples;

    public static void main(String[] args) throws Exception {
        String readme = Files.readString(Path.of("README.md"));
        new ReadmeTest().examples(readme);
        refusals(readme);
        tests(readme);
        due.finish();
    }

    private void examples(String readme) throws Exception {
        Matcher block = BLOCK.matcher(readme);
        while (block.find()) {
            if (block.group(1).startsWith(BEGINNING)) {
                example(block.group(1));
            }
        }
        due.holds("there are examples", examples > 0);
        List<?> answers = play();
        due.is("how many calls answered", answers.size(), told.size());
        for (int i = 0; i < Math.min(answers.size(), told.size()); i++) {
            due.is("README.md: " + told.get(i).call, (Integer) answers.get(i), told.get(i).answer);
        }
        for (Method method : WildLevels.class.getDeclaredMethods()) {
            if (Modifier.isPublic(method.getModifiers())) {
                due.holds("an example calls " + method.getName(), names.contains(method.getName()));
            }
        }
    }

    /** Each line stays as it is, but that a call with an answer puts what it answers into a list. */
    private void example(String block) {
        examples++;
        code.append("{\n");
        for (String line : block.split("\n")) {
            Matcher call = CALL.matcher(line);
            if (call.matches()) {
                told.add(new Told(call.group(1) + call.group(2), answer(call.group(3))));
                names.add(call.group(1));
                code.append("answers.add(x.").append(call.group(1)).append(call.group(2)).append(");\n");
            } else {
                due.holds("an answer stands behind '" + line + "'", !line.startsWith("x."));
                names.addAll(line.startsWith("    x.feed(c);") ? List.of("feed") : List.of());
                code.append(line).append('\n');
            }
        }
        code.append("}\n");
    }

    private static int answer(String text) {
        switch (text) {
            case "BAD":
                return WildLevels.BAD;
            case "STATE":
                return WildLevels.STATE;
            case "FULL":
                return WildLevels.FULL;
            case "NONE":
                return WildLevels.NONE;
            default:
                return Integer.parseInt(text);
        }
    }

    /** What the calls answer, one behind the other; nothing if the examples do not compile. */
    private List<?> play() throws Exception {
        Path folder = Files.createTempDirectory("readme");
        try {
            Path source = folder.resolve("Examples.java");
            Files.writeString(source, "public final class Examples {\n"
                + "public static java.util.List<Integer> play() {\n"
                + "java.util.List<Integer> answers = new java.util.ArrayList<>();\n" + code + "return answers;\n}\n}\n");
            PrintWriter out = new PrintWriter(System.out, true);
            int status = ToolProvider.findFirst("javac").orElseThrow().run(out, out, "-cp",
                System.getProperty("java.class.path"), "-d", folder.toString(), source.toString());
            due.is("javac of the examples", status, 0);
            if (status != 0) {
                return List.of();
            }
            try (URLClassLoader loader = new URLClassLoader(new URL[] {folder.toUri().toURL()})) {
                return (List<?>) loader.loadClass("Examples").getMethod("play").invoke(null);
            }
        } finally {
            for (File file : folder.toFile().listFiles()) {
                file.delete();
            }
            Files.delete(folder);
        }
    }

    private static void refusals(String readme) {
        Matcher m = Pattern.compile("`(BAD|STATE|FULL|NONE)` \\((-?\\d+)\\)").matcher(readme);
        int count = 0;
        while (m.find()) {
            due.is("README.md: " + m.group(1), Integer.parseInt(m.group(2)), answer(m.group(1)));
            count++;
        }
        due.is("refusals that are told", count, 4);
    }

    /** Every test has its row in the table, every row its test, and .ci/run can be run. */
    private static void tests(String readme) throws Exception {
        Set<String> there = new HashSet<>();
        try (Stream<Path> files = Files.list(Path.of("src/test/java"))) {
            files.map(file -> file.getFileName().toString()).filter(name -> name.endsWith("Test.java"))
                .forEach(name -> there.add(name.replace(".java", "")));
        }
        Set<String> rows = new HashSet<>();
        Matcher row = Pattern.compile("(?m)^\\| `(\\w+)` \\|").matcher(readme);
        while (row.find()) {
            rows.add(row.group(1));
        }
        due.holds("the table " + rows + " has the tests " + there, rows.equals(there));
        due.holds("README.md tells of .ci/run", readme.contains("```sh\n.ci/run\n```"));
        due.holds(".ci/run can be run", Files.isExecutable(Path.of(".ci/run")));
    }
}
