import java.io.File;
import java.nio.file.Files;
import java.nio.file.Path;
import java.util.ArrayList;
import java.util.List;
import java.util.concurrent.ExecutorService;
import java.util.concurrent.Executors;
import java.util.concurrent.TimeUnit;
import java.util.regex.Matcher;
import java.util.regex.Pattern;
import java.util.spi.ToolProvider;

/**
 * By hand, not by .ci/run: breaks the class in one place at a time and plays a test against each broken one. What it prints
 * is broken and not found: either it answers the same for all that, or a test is missing.
 *
 * <p>java -cp CLASSES Mutants TEST [FIRST_LINE LAST_LINE], from the project's folder.
 */
public final class Mutants {
    private static final Path SOURCE = Path.of("src/main/java/WildLevels.java");
    private static final int SECONDS = 60;
    private static final String[][] SWAPS = {{" <= ", " < "}, {" < ", " <= "}, {" >= ", " > "}, {" > ", " >= "}, {" == ", " != "}, {" != ", " == "},
        {" && ", " || "}, {" || ", " && "}, {" + ", " - "}, {" - ", " + "}, {"++", "--"}, {"--", "++"}, {" += ", " -= "}, {"true", "false"},
        {"false", "true"}, {"Math.min", "Math.max"}, {"Math.max", "Math.min"}};

    private record Mutant(int line, String was, String is) { }

    private final List<String> lines = Files.readAllLines(SOURCE);
    private final List<Mutant> mutants = new ArrayList<>();
    private int found;
    private int free;
    private int unbuilt;

    private Mutants() throws Exception { }

    public static void main(String[] args) throws Exception {
        Mutants all = new Mutants();
        int first = args.length > 2 ? Integer.parseInt(args[1]) : 1;
        int last = args.length > 2 ? Integer.parseInt(args[2]) : all.lines.size();
        all.breed(first, last);
        all.play(args[0]);
    }

    private void breed(int first, int last) {
        boolean comment = false;
        for (int i = first; i <= last; i++) {
            String line = lines.get(i - 1);
            String code = line.trim();
            comment = comment || code.startsWith("/*");
            if (!comment && !code.startsWith("//") && !code.isEmpty()) {
                breed(i, line);
            }
            comment = comment && !code.endsWith("*/");
        }
    }

    private void breed(int i, String line) {
        for (String[] swap : SWAPS) {
            for (int at = line.indexOf(swap[0]); at >= 0; at = line.indexOf(swap[0], at + 1)) {
                add(i, line, line.substring(0, at) + swap[1] + line.substring(at + swap[0].length()));
            }
        }
        around(i, line, "(?<![\\w.\"])\\d+(?![\\w\"])", "($0 + 1)", "($0 - 1)");
        around(i, line, "(?<!\\w)[A-Z][A-Z_]+(?!\\w| =)", "($0 + 1)", "($0 - 1)");
        around(i, line, "!(?!=)", "");
        around(i, line, "(?<=if \\().*(?=\\) \\{)", "!($0)");
        around(i, line, "(?<=return ).*(?=;)", "0", "1", "-1", "true", "false", "($0) + 1");
        if (line.trim().matches("[a-z][\\w.\\[\\] -]*(\\(.*\\)|\\+\\+|--| [+-]?= .*|);") && !line.contains("return") && !line.contains(" final ")) {
            add(i, line, line.replaceFirst("\\S.*", ";"));
        }
    }

    private void around(int i, String line, String what, String... instead) {
        Matcher m = Pattern.compile(what).matcher(line);
        while (m.find()) {
            for (String one : instead) {
                add(i, line, line.substring(0, m.start()) + one.replace("$0", m.group()) + line.substring(m.end()));
            }
        }
    }

    private void add(int i, String was, String is) {
        if (!was.equals(is)) {
            mutants.add(new Mutant(i, was, is));
        }
    }

    private void play(String test) throws Exception {
        ExecutorService pool = Executors.newFixedThreadPool(Runtime.getRuntime().availableProcessors());
        for (Mutant mutant : mutants) {
            pool.submit(() -> play(mutant, test));
        }
        pool.shutdown();
        pool.awaitTermination(1, TimeUnit.DAYS);
        System.out.println(mutants.size() + " broken ones: " + found + " found, " + free + " not, " + unbuilt + " do not compile");
    }

    private void play(Mutant mutant, String test) {
        try {
            Path folder = Files.createTempDirectory("mutant");
            int code = -1;
            if (build(mutant, folder)) {
                Process process = new ProcessBuilder("java", "-XX:TieredStopAtLevel=1", "-XX:+UseSerialGC", "-cp",
                    folder + File.pathSeparator + System.getProperty("java.class.path"), test)
                    .redirectOutput(ProcessBuilder.Redirect.DISCARD).redirectError(ProcessBuilder.Redirect.DISCARD).start();
                code = process.waitFor(SECONDS, TimeUnit.SECONDS) ? process.exitValue() : 1;
                process.destroyForcibly();
            }
            count(mutant, code);
            for (File file : folder.toFile().listFiles()) {
                file.delete();
            }
            Files.delete(folder);
        } catch (Exception e) {
            System.out.println(mutant + ": " + e);
        }
    }

    private boolean build(Mutant mutant, Path folder) throws Exception {
        List<String> broken = new ArrayList<>(lines);
        broken.set(mutant.line - 1, mutant.is);
        Path source = folder.resolve("WildLevels.java");
        Files.write(source, broken);
        java.io.PrintWriter silent = new java.io.PrintWriter(java.io.Writer.nullWriter());
        return ToolProvider.findFirst("javac").orElseThrow().run(silent, silent, "-nowarn", "-d", folder.toString(), source.toString()) == 0;
    }

    private synchronized void count(Mutant mutant, int code) {
        if (code < 0) {
            unbuilt++;
        } else if (code > 0) {
            found++;
        } else {
            free++;
            System.out.println("line " + mutant.line + ": " + mutant.is.trim() + "   was: " + mutant.was.trim());
        }
    }
}
