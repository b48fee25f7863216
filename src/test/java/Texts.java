import java.util.ArrayList;
import java.util.List;
import java.util.Random;

/** Desks as texts, by chance: good ones, and ones with something wrong in them. */
final class Texts {
    private final Random random;
    int columns;
    int rows;
    int day;
    int[] turns;
    int craft;
    int sites;

    Texts(Random random) {
        this.random = random;
    }

    int upTo(int least, int most) {
        return least + random.nextInt(most - least + 1);
    }

    private static List<Integer> divisors(int n) {
        List<Integer> list = new ArrayList<>();
        for (int i = 2; i <= 96; i++) {
            if (n % i == 0) {
                list.add(i);
            }
        }
        return list;
    }

    /** A good text; a small one has few cells, ticks and craft. */
    String good(boolean small) {
        int[] cycles = small ? new int[] {4, 6, 8, 10, 12, 7} : new int[] {24, 30, 36, 48, 60, 90, 96, 120, 240};
        List<Integer> by = divisors(cycles[random.nextInt(cycles.length)]);
        columns = small ? upTo(4, 9) : upTo(4, 24);
        rows = small ? upTo(3, 6) : upTo(3, 12);
        day = by.get(random.nextInt(by.size()));
        List<String> parts = new ArrayList<>();
        int planes = upTo(0, 4);
        turns = new int[planes];
        craft = planes == 0 ? 0 : upTo(0, small ? 5 : 8);
        sites = upTo(0, 6);
        for (int i = 0; i < planes; i++) {
            turns[i] = by.get(random.nextInt(by.size()));
            parts.add("plane " + name("p", i) + " node " + upTo(0, columns - 1) + " tilt " + upTo(0, rows / 2)
                + " turn " + turns[i]);
        }
        List<String> others = new ArrayList<>();
        int reaches = upTo(0, small ? 3 : 6);
        for (int i = 0; i < craft; i++) {
            int in = random.nextInt(planes);
            others.add("craft " + name("c", i) + " in " + name("p", in) + " phase " + upTo(0, turns[in] - 1)
                + " reach " + (random.nextInt(12) == 0 ? upTo(0, 12) : upTo(0, reaches)));
        }
        for (int i = 0; i < sites; i++) {
            int from = upTo(0, day - 1);
            others.add(upTo(0, others.size()), "site " + name("s", i) + " at " + upTo(0, columns - 1) + " "
                + upTo(0, rows - 1) + " from " + from + " to " + (random.nextBoolean() ? day : upTo(from + 1, day)));
        }
        parts.addAll(others);
        StringBuilder text = new StringBuilder("grid " + columns + " by " + rows + " day " + day + ";");
        for (String part : parts) {
            text.append(part).append(';');
        }
        return random.nextInt(4) == 0 ? loosened(text.toString()) : text.toString();
    }

    private static String name(String kind, int i) {
        String tail = "abcdef".substring(0, i % 6);
        return (i < 6 ? kind : "x" + kind) + tail;
    }

    private String loosened(String text) {
        StringBuilder out = new StringBuilder();
        for (char c : text.toCharArray()) {
            if (c == ' ' || c == ';') {
                out.append(random.nextInt(4) == 0 ? "\n" : random.nextInt(3) == 0 ? "  " : c == ' ' ? " " : "");
            }
            if (c == ';') {
                out.append(c).append(random.nextInt(3) == 0 ? " \n" : "");
            } else if (c != ' ') {
                out.append(c);
            }
        }
        return out.toString();
    }

    /** One or two changes, such as may or may not make a text wrong. */
    String changed(String text) {
        StringBuilder out = new StringBuilder(text);
        int changes = upTo(1, 2);
        String[] bits = {" ", "", ";", "0", "1", "9", "99", "97", "a", "p", "pa", "grid", "day", "plane", "craft",
            "site", "\n", "\t", "A", "at", "to", "é", "abcdefg", "00", "\0", "-1", "by ", "in "};
        for (int i = 0; i < changes && out.length() > 0; i++) {
            int at = random.nextInt(out.length());
            int to = Math.min(out.length(), at + random.nextInt(3));
            switch (random.nextInt(6)) {
                case 0:
                    out.setLength(at);
                    break;
                case 1:
                    swapWord(out);
                    break;
                case 2:
                    repeatStatement(out);
                    break;
                default:
                    out.replace(at, to, bits[random.nextInt(bits.length)]);
                    break;
            }
        }
        return out.length() > 1600 ? out.substring(0, 1600) : out.toString();
    }

    private void swapWord(StringBuilder out) {
        String[] words = out.toString().split("(?<=[ ;])");
        int one = random.nextInt(words.length);
        int two = random.nextInt(words.length);
        String kept = words[one];
        words[one] = words[two];
        words[two] = random.nextBoolean() ? kept : upTo(0, 110) + " ";
        out.setLength(0);
        out.append(String.join("", words));
    }

    private void repeatStatement(StringBuilder out) {
        String[] parts = out.toString().split("(?<=;)");
        String part = parts[random.nextInt(parts.length)];
        for (int i = upTo(1, 9); i > 0 && out.length() + part.length() < 1600; i--) {
            out.append(random.nextBoolean() ? part : part.replaceFirst(" [a-z]+", " " + "qrstuvwxyz".charAt(i)));
        }
    }
}
