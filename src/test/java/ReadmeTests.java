import java.io.ByteArrayOutputStream;
import java.lang.reflect.Method;
import java.lang.reflect.Modifier;
import java.nio.charset.StandardCharsets;
import java.nio.file.Files;
import java.nio.file.Path;
import java.util.ArrayList;
import java.util.List;
import java.util.Set;
import java.util.TreeSet;
import java.util.regex.Matcher;
import java.util.regex.Pattern;
import java.util.stream.Collectors;
import java.util.stream.Stream;
import javax.tools.JavaCompiler;
import javax.tools.ToolProvider;

/**
 * What README.md shows holds: its Java is compiled as it stands, a call with an answer behind it must answer so, and
 * the tests and inner classes that it names are those that there are.
 */
public final class ReadmeTests extends Checks {
    private static final Pattern BLOCK = Pattern.compile("```java\n(.*?)```", Pattern.DOTALL);
    private static final Pattern SHOWN = Pattern.compile("(\\w+\\.\\w+\\(.*\\)); *// (-?\\w+)(: .*)?");

    private ReadmeTests() {
    }

    /** The README's blocks are one program; a call at a line's begin must have its answer shown. */
    static String program(String readme) {
        StringBuilder out = new StringBuilder("public final class Shown extends Checks {\n");
        out.append("public static void main(String[] args) {\n");
        Matcher block = BLOCK.matcher(readme);
        int calls = 0;
        while (block.find()) {
            for (String line : block.group(1).split("\n")) {
                Matcher shown = SHOWN.matcher(line);
                boolean call = line.matches("\\w+\\.\\w+\\(.*");
                due("an answer is shown by " + line, call, call && shown.matches());
                if (shown.matches()) {
                    String name = shown.group(1).replace("\\", "\\\\").replace("\"", "\\\"");
                    out.append("due(\"" + name + "\", " + shown.group(1) + ", " + shown.group(2) + ");\n");
                    calls++;
                } else {
                    out.append(line).append('\n');
                }
            }
        }
        due("the README shows some calls: " + calls, calls >= 20, true);
        return out.append("}\n}\n").toString();
    }

    // It goes beside the tests' own classes: Checks is not seen from another loader.
    private static void runShown(String program) throws Exception {
        Path home = Path.of(System.getProperty("java.class.path"));
        Path source = home.resolve("Shown.java");
        Files.writeString(source, program);
        JavaCompiler compiler = ToolProvider.getSystemJavaCompiler();
        due("there is a compiler", compiler != null, true);
        if (compiler == null) {
            return;
        }
        ByteArrayOutputStream said = new ByteArrayOutputStream();
        int code = compiler.run(null, said, said, "-cp", home.toString(), "-d", home.toString(), source.toString());
        due("what the README shows compiles: " + said.toString(StandardCharsets.UTF_8), code, 0);
        if (code == 0) {
            Class.forName("Shown").getMethod("main", String[].class).invoke(null, (Object) new String[0]);
        }
    }

    private static Set<String> found(String pattern, String text) {
        Set<String> out = new TreeSet<>();
        Matcher m = Pattern.compile(pattern).matcher(text);
        while (m.find()) {
            out.add(m.group(1));
        }
        return out;
    }

    /** The groups of calls that the README lists have every call of the face. */
    private static void callsNamed(String readme) {
        int from = readme.indexOf("| calls |");
        int to = readme.indexOf("## How it is made");
        due("the README has a list of calls", from >= 0 && to > from, true);
        Set<String> told = from >= 0 && to > from ? found("`(\\w+)`", readme.substring(from, to)) : Set.of();
        Set<String> face = new TreeSet<>();
        for (Method m : OrbitDesk.class.getDeclaredMethods()) {
            if (Modifier.isPublic(m.getModifiers())) {
                face.add(m.getName());
            }
        }
        due("the README lists the calls " + face + ", not " + told, told.equals(face), true);
    }

    private static void classesNamed(String readme) {
        Set<String> told = found("(?m)^\\| `([A-Z]\\w+)` \\|", readme);
        Set<String> inside = new TreeSet<>();
        for (Class<?> c : OrbitDesk.class.getDeclaredClasses()) {
            inside.add(c.getSimpleName());
        }
        due("the README lists the classes " + inside + ", not " + told, told.equals(inside), true);
    }

    /** Every test file is named, and every test with a main method is run by .ci/run. */
    private static void testsNamed(String readme, Path project) throws Exception {
        String script = Files.readString(project.resolve(".ci/run"));
        List<Path> files = new ArrayList<>();
        try (Stream<Path> all = Files.list(project.resolve("src/test/java"))) {
            files.addAll(all.collect(Collectors.toList()));
        }
        due("there are tests", files.size() > 10, true);
        for (Path file : files) {
            String name = file.getFileName().toString().replace(".java", "");
            due("the README names " + name, readme.matches("(?s).*`@?" + name + "`.*"), true);
            if (Files.readString(file).contains("\n    public static void main(")) {
                due(".ci/run runs " + name, script.matches("(?s).*\\b" + name + "\\b.*"), true);
            }
        }
    }

    public static void main(String[] args) throws Exception {
        Path project = Path.of(System.getProperty("project"));
        String readme = Files.readString(project.resolve("README.md"));
        test = "README.md";
        runShown(program(readme));
        callsNamed(readme);
        classesNamed(readme);
        testsNamed(readme, project);
        System.out.println("ReadmeTests: " + checks + " checks, " + wrong + " wrong");
        if (wrong != 0) {
            System.exit(1);
        }
    }
}
