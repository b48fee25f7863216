import java.lang.reflect.Constructor;
import java.lang.reflect.Field;
import java.lang.reflect.Method;
import java.lang.reflect.Modifier;
import java.nio.file.Files;
import java.nio.file.Path;
import java.util.ArrayList;
import java.util.HashSet;
import java.util.List;
import java.util.Set;
import java.util.TreeSet;
import java.util.regex.Matcher;
import java.util.regex.Pattern;

/** The face, and those rules of ../shared/LANGUAGE.md that can be read off the compiled class or its text. */
public final class LanguageTests {
    private static int wrong = 0;

    private static void check(boolean good, String fault) {
        if (!good) {
            wrong++;
            System.out.println("LANGUAGE: " + fault);
        }
    }

    /** The methods that the document's public face has, without the names of their parameters. */
    private static Set<String> documented(String doc) {
        int from = doc.indexOf("public final class OrbitDesk {");
        String face = doc.substring(from, doc.indexOf("\n}", from));
        Set<String> out = new TreeSet<>();
        Matcher m = Pattern.compile("public (\\w+) (\\w+)\\(([^)]*)\\);").matcher(face);
        while (m.find()) {
            out.add(m.group(1) + " " + m.group(2) + "(" + m.group(3).replaceAll(" \\w+(, )?", "$1").replace(" ", "") + ")");
        }
        check(out.size() == 55, "the document has " + out.size() + " methods");
        check(face.contains("public static final int NONE = -1;") && OrbitDesk.NONE == -1, "rule 1: NONE is -1");
        check(face.split("public ").length == out.size() + 4, "the document's face has more than was read");
        return out;
    }

    private static void face(Set<String> due) {
        check(Modifier.isPublic(OrbitDesk.class.getModifiers()) && Modifier.isFinal(OrbitDesk.class.getModifiers()),
            "rule 1: the class is public and final");
        Set<String> names = new HashSet<>();
        Set<String> is = new TreeSet<>();
        for (Method m : OrbitDesk.class.getDeclaredMethods()) {
            if (Modifier.isPublic(m.getModifiers())) {
                List<String> types = new ArrayList<>();
                for (Class<?> type : m.getParameterTypes()) {
                    types.add(type.getName());
                }
                is.add(m.getReturnType().getName() + " " + m.getName() + "(" + String.join(",", types) + ")");
                names.add(m.getName());
            } else {
                check(Modifier.isPrivate(m.getModifiers()), "rule 1: " + m + " is neither public nor private");
            }
        }
        check(is.equals(due), "rule 1: the face is " + is);
        for (Field f : OrbitDesk.class.getDeclaredFields()) {
            boolean constant = f.getName().equals("NONE") && f.getType() == int.class && isConstant(f.getModifiers());
            check(constant || Modifier.isPrivate(f.getModifiers()), "rule 1: " + f);
        }
        Constructor<?>[] constructors = OrbitDesk.class.getDeclaredConstructors();
        check(constructors.length == 1 && Modifier.isPublic(constructors[0].getModifiers()), "rule 1: constructors");
        shape(OrbitDesk.class, names);
        for (Class<?> inside : OrbitDesk.class.getDeclaredClasses()) {
            check(Modifier.isStatic(inside.getModifiers()), "rule 1: " + inside + " is static");
            check(!Modifier.isPublic(inside.getModifiers()) && !Modifier.isProtected(inside.getModifiers()),
                "rule 1: " + inside + " is private or package-visible");
            shape(inside, names);
        }
        check(OrbitDesk.class.getDeclaredClasses().length + 1 <= 12, "rule 11: twelve classes");
    }

    private static boolean isConstant(int modifiers) {
        return Modifier.isPublic(modifiers) && Modifier.isStatic(modifiers) && Modifier.isFinal(modifiers);
    }

    private static void shape(Class<?> type, Set<String> names) {
        int fields = 0;
        for (Field f : type.getDeclaredFields()) {
            if (Modifier.isStatic(f.getModifiers())) {
                check(Modifier.isFinal(f.getModifiers()), "rule 5: " + f);
            } else {
                fields++;
            }
        }
        check(fields <= 20, "rule 11: " + type + " has " + fields + " fields");
        for (Method m : type.getDeclaredMethods()) {
            check(m.getParameterCount() <= 7, "rule 11: " + m);
            check(type == OrbitDesk.class && Modifier.isPublic(m.getModifiers()) || !names.contains(m.getName()),
                "rule 1: " + m + " bears the name of a public one");
            check(!m.isSynthetic(), "rule 2: " + m + " is made by the compiler");
        }
    }

    private static void text(String source) {
        String bare = source.replaceAll("(?s)/\\*.*?\\*/", "").replaceAll("//[^\n]*", "");
        String[] banned = {"->", "::", "\\btry\\b", "\\bcatch\\b", "\\bthrow\\b", "\\bthrows\\b", "\\bfinally\\b",
            "\\bimport\\b", "\\bsynchronized\\b", "\\bassert\\b", "\\bFloat\\b", "\\bDouble\\b", "Exact\\(",
            "\\bvar\\b", "\\bnull\\b", "\\bnative\\b", "\\bvolatile\\b", "\\bObject\\b", "\\bThread\\b"};
        for (String word : banned) {
            check(!Pattern.compile(word).matcher(bare).find(), "the text has " + word);
        }
        Matcher calls = Pattern.compile("\\b(Integer|Long|Math|System|Arrays)\\.(\\w+)").matcher(bare);
        Set<String> known = Set.of("Integer.bitCount", "Integer.numberOfTrailingZeros", "Math.abs", "Math.min",
            "Math.max", "System.arraycopy");
        while (calls.find()) {
            check(known.contains(calls.group()), "rule 4: " + calls.group());
        }
        check(source.chars().allMatch(c -> c < 128), "the text has signs beyond 127");
        lengths(source);
        divisors(bare);
    }

    private static void lengths(String source) {
        String[] lines = source.split("\n", -1);
        for (int i = 0; i < lines.length; i++) {
            check(lines[i].length() <= 120, "line " + (i + 1) + " is long");
            boolean head = lines[i].matches(" {4,8}[\\w\\[\\] ]+\\([^;]*\\) \\{");
            if (!head) {
                continue;
            }
            String close = lines[i].replaceAll("\\S.*", "") + "}";
            int end = i;
            while (end < lines.length - 1 && !lines[end].equals(close)) {
                end++;
            }
            check(end - i < 60, "rule 11: the method at line " + (i + 1) + " has " + (end - i + 1) + " lines");
        }
    }

    /** A divisor is a written number, or a float that cannot be 0, or stands behind a test in cut() and rest(). */
    private static void divisors(String bare) {
        Matcher m = Pattern.compile("[/%]=? *([^ ;)]+)").matcher(bare.replaceAll("\"[^\"]*\"", ""));
        Set<String> known = Set.of("divisor", "ticks", "(float", "(double");
        while (m.find()) {
            String by = m.group(1);
            check(by.matches("[0-9]+") || by.equals("MOST_UNDONE") || known.contains(by), "rule 7: divided by " + by);
        }
    }

    public static void main(String[] args) throws Exception {
        face(documented(Files.readString(Path.of(System.getProperty("doc")))));
        text(Files.readString(Path.of(System.getProperty("class"))));
        System.out.println("LanguageTests: " + wrong + " wrong");
        if (wrong != 0) {
            System.exit(1);
        }
    }
}
