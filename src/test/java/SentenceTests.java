import java.lang.reflect.InvocationTargetException;
import java.lang.reflect.Method;
import java.nio.file.Files;
import java.nio.file.Path;
import java.util.ArrayList;
import java.util.Arrays;
import java.util.Comparator;
import java.util.LinkedHashMap;
import java.util.List;
import java.util.Map;

/**
 * Runs the tests that are each for some words of the document, and looks whether those words stand where the test's
 * name says, and whether any words of the terms and promises are left without a test.
 */
public final class SentenceTests extends Checks {
    private static final Class<?>[] GROUPS = {TermOneTests.class, TermTwoTests.class, TermThreeTests.class,
        ToldEdges.class, CycleEdges.class, TriedEdges.class, ActEdges.class};

    private SentenceTests() {
    }

    private static List<Method> tests() {
        List<Method> all = new ArrayList<>();
        for (Class<?> group : GROUPS) {
            Method[] methods = group.getDeclaredMethods();
            Arrays.sort(methods, Comparator.comparing(Method::getName));
            for (Method method : methods) {
                if (method.isAnnotationPresent(Says.class)) {
                    all.add(method);
                }
            }
        }
        return all;
    }

    private static void run(Method method) throws IllegalAccessException {
        test = method.getName();
        int before = checks;
        try {
            method.invoke(null);
        } catch (InvocationTargetException e) {
            due(test + " threw " + e.getCause(), 1, 0);
        }
        due("it checks something", checks > before, true);
    }

    private static String plain(String text) {
        return text.replace("```text", " ").replace("```", " ").replaceAll("\\s+", " ");
    }

    /** The texts of the terms and promises, by what the names of their tests begin with. */
    private static Map<String, String> sections(String doc) {
        Map<String, String> out = new LinkedHashMap<>();
        String terms = doc.substring(doc.indexOf("\nI. "), doc.indexOf("\nThe constants:"));
        int two = terms.indexOf("\nII. ");
        int three = terms.indexOf("\nIII. ");
        out.put("termI", plain(terms.substring(4, two)));
        out.put("termII", plain(terms.substring(two + 5, three)));
        out.put("termIII", plain(terms.substring(three + 6)));
        for (int n = 1; n <= 56; n++) {
            int from = doc.indexOf("\n## Promise " + n + ":");
            int to = doc.indexOf("\n## ", from + 4);
            String text = doc.substring(from, to);
            out.put("promise" + n, plain(text.substring(text.indexOf("`: ") + 3)));
        }
        return out;
    }

    private static void mark(Method method, String section, boolean[] told) {
        for (String words : method.getAnnotation(Says.class).value()) {
            int at = section.indexOf(words);
            due("the words stand there: " + words, at >= 0, true);
            due("they stand there once: " + words, section.indexOf(words, at + 1) >= 0, false);
            for (int i = Math.max(at, 0); at >= 0 && i < at + words.length(); i++) {
                told[i] = true;
            }
        }
    }

    private static String untold(String section, boolean[] told) {
        StringBuilder out = new StringBuilder();
        for (int i = 0; i < section.length(); i++) {
            boolean open = !told[i] && Character.isLetterOrDigit(section.charAt(i));
            out.append(open || !told[i] && section.charAt(i) == ' ' ? section.charAt(i) : '.');
        }
        return out.toString().replaceAll("[. ]*\\.[. ]*", " .. ").trim();
    }

    private static void document(List<Method> tests) throws Exception {
        Map<String, String> sections = sections(Files.readString(Path.of(System.getProperty("doc"))));
        Map<String, boolean[]> told = new LinkedHashMap<>();
        sections.forEach((name, text) -> told.put(name, new boolean[text.length()]));
        for (Method method : tests) {
            test = method.getName();
            String name = test.substring(0, Math.max(0, test.indexOf('_')));
            due("it is named after a promise or a term", sections.containsKey(name), true);
            if (sections.containsKey(name)) {
                mark(method, sections.get(name), told.get(name));
            }
        }
        for (String name : sections.keySet()) {
            String left = untold(sections.get(name), told.get(name)).replace("..", "").trim();
            test = name;
            due("words without a test: " + left, left.length(), 0);
        }
    }

    public static void main(String[] args) throws Exception {
        List<Method> tests = tests();
        for (Method method : tests) {
            run(method);
        }
        document(tests);
        System.out.println("SentenceTests: " + tests.size() + " tests, " + checks + " checks, " + wrong + " wrong");
        if (wrong != 0) {
            System.exit(1);
        }
    }
}
