import java.io.File;
import java.io.IOException;
import java.nio.file.Files;
import java.nio.file.Path;
import java.util.ArrayList;
import java.util.List;
import java.util.concurrent.ExecutorService;
import java.util.concurrent.Executors;
import java.util.concurrent.Future;
import java.util.concurrent.TimeUnit;
import java.util.regex.Matcher;
import java.util.regex.Pattern;
import javax.tools.JavaCompiler;
import javax.tools.ToolProvider;

/**
 * Breaks the class in one small place at a time and tells which breaks no test finds. It is no test itself:
 * java Breaks CLASS.java TESTS-CLASSPATH DOC.md FIRST-LINE LAST-LINE TEST [TEST ..]
 */
public final class Breaks {
    private static final String[][] SWAPS = {
        {"(?<![<>=!-])<=(?!=)", "<"}, {"(?<![<>=!-])>=(?!=)", ">"}, {"==", "!="}, {"!=", "=="},
        {"(?<![<>])<(?![<=>])", "<="}, {"(?<![<>-])>(?![<=>])", ">="}, {"&&", "||"}, {"\\|\\|", "&&"},
        {"(?<= )\\+(?= )", "-"}, {"(?<= )-(?= )", "+"}, {"(?<= )\\*(?= )", "+"}, {"(?<= )&(?= )", "|"},
        {"(?<= )\\|(?= )", "&"}, {"!(?=[a-z(])", ""}, {"\\btrue\\b", "false"}, {"\\bfalse\\b", "true"},
        {"Math\\.min", "Math.max"}, {"Math\\.max", "Math.min"}};
    private static final Pattern NUMBER = Pattern.compile("(?<![\\w\".])(\\d{1,8})(?![\\w.\"])");
    private static final Pattern STEP = Pattern.compile("( *)[\\w.\\[\\]]+(\\(.*\\)|( [-+|&^]?= .*)|\\+\\+|--);");

    private final List<String> lines;
    private final String classpath;
    private final String doc;
    private final List<String> tests;

    private Breaks(List<String> lines, String classpath, String doc, List<String> tests) {
        this.lines = lines;
        this.classpath = classpath;
        this.doc = doc;
        this.tests = tests;
    }

    private static List<String> breaksOf(String line) {
        List<String> out = new ArrayList<>();
        String bare = line.trim();
        if (bare.startsWith("//") || bare.startsWith("/*") || bare.startsWith("*")) {
            return out;
        }
        for (String[] swap : SWAPS) {
            Matcher m = Pattern.compile(swap[0]).matcher(line);
            while (m.find()) {
                out.add(line.substring(0, m.start()) + swap[1] + line.substring(m.end()));
            }
        }
        Matcher number = NUMBER.matcher(line);
        while (number.find()) {
            int value = Integer.parseInt(number.group(1));
            out.add(line.substring(0, number.start()) + (value + 1) + line.substring(number.end()));
            if (value > 0) {
                out.add(line.substring(0, number.start()) + (value - 1) + line.substring(number.end()));
            }
        }
        if (STEP.matcher(line).matches() && !bare.startsWith("return")) {
            out.add(line.replaceAll("\\S.*", ";"));
        }
        return out;
    }

    /** Whether a test finds it, or it does not compile. */
    private boolean found(int index, String broken) throws IOException, InterruptedException {
        Path dir = Files.createTempDirectory("break");
        try {
            List<String> text = new ArrayList<>(lines);
            text.set(index, broken);
            Path file = dir.resolve("OrbitDesk.java");
            Files.write(file, text);
            JavaCompiler javac = ToolProvider.getSystemJavaCompiler();
            File quiet = dir.resolve("javac.out").toFile();
            try (java.io.OutputStream out = Files.newOutputStream(quiet.toPath())) {
                if (javac.run(null, out, out, "-nowarn", "-d", dir.toString(), file.toString()) != 0) {
                    return true;
                }
            }
            for (String test : tests) {
                if (fails(dir, test)) {
                    return true;
                }
            }
            return false;
        } finally {
            try (var all = Files.list(dir)) {
                all.forEach(f -> f.toFile().delete());
            }
            Files.delete(dir);
        }
    }

    private boolean fails(Path dir, String test) throws IOException, InterruptedException {
        Process run = new ProcessBuilder("java", "-XX:TieredStopAtLevel=1", "-Ddoc=" + doc, "-cp",
            dir + File.pathSeparator + classpath, test).redirectErrorStream(true)
            .redirectOutput(ProcessBuilder.Redirect.DISCARD).start();
        if (!run.waitFor(60, TimeUnit.SECONDS)) {
            run.destroyForcibly().waitFor();
            return true;
        }
        return run.exitValue() != 0;
    }

    private void run(int first, int last) throws Exception {
        ExecutorService workers = Executors.newFixedThreadPool(Runtime.getRuntime().availableProcessors());
        List<Future<String>> answers = new ArrayList<>();
        for (int i = Math.max(0, first - 1); i < Math.min(last, lines.size()); i++) {
            int index = i;
            for (String broken : breaksOf(lines.get(i))) {
                answers.add(workers.submit(() -> found(index, broken) ? "" : (index + 1) + ": " + broken.trim()));
            }
        }
        workers.shutdown();
        int left = 0;
        for (Future<String> answer : answers) {
            if (!answer.get().isEmpty()) {
                left++;
                System.out.println(answer.get());
            }
        }
        System.out.println(answers.size() + " breaks, " + left + " not found");
    }

    public static void main(String[] args) throws Exception {
        List<String> tests = List.of(args).subList(5, args.length);
        new Breaks(Files.readAllLines(Path.of(args[0])), args[1], args[2], tests)
            .run(Integer.parseInt(args[3]), Integer.parseInt(args[4]));
    }
}
