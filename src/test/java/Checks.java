import java.nio.charset.StandardCharsets;
import java.util.ArrayList;
import java.util.Arrays;
import java.util.List;
import java.util.function.Predicate;
import java.util.function.Supplier;

/** What the tests share: answers held against those that are due, bytes fed, desks made, refusals looked at. */
class Checks {
    static final int NONE = -1;
    static final int MIN = Integer.MIN_VALUE;
    static final int MAX = Integer.MAX_VALUE;
    static int wrong = 0;
    static int checks = 0;
    static String test = "";

    /*
     * RING: tilt 0, two craft on opposite sides. At ticks 0 .. 3 craft a is above columns 0, 1, 2, 3 of row 1, craft
     * b above 2, 3, 0, 1. WIDTHS are 2, 3, 2; with reach 1 a craft sees three cells of row 1 and the one above and
     * below it.
     */
    static final String ALONE = "grid 4 by 3 day 4;plane p node 0 tilt 0 turn 2;craft a in p phase 0 reach 1;";
    static final String RING = ALONE + "craft b in p phase 1 reach 1;";
    /*
     * BOW: turn and day are alike, so a stays in column 0 and b in column 4, rows 2 3 4 3 2 1 0 1 and 2 1 0 1 2 3 4 3.
     * WIDTHS are 3, 4, 5, 4, 3.
     */
    static final String BOW = "grid 8 by 5 day 8;plane p node 0 tilt 2 turn 8;craft a in p phase 0 reach 1;"
        + "craft b in p phase 4 reach 0;site s at 2 4 from 0 to 8;";
    static final String SITES = "grid 8 by 5 day 8;plane p node 0 tilt 2 turn 8;craft a in p phase 0 reach 1;"
        + "site x at 0 2 from 0 to 8;site y at 0 0 from 4 to 6;site z at 4 4 from 0 to 8;";

    /** All there may be: columns, rows, ticks of the cycle, planes, craft, sites. */
    static final String FULL = "grid 24 by 12 day 80;plane pa node 0 tilt 6 turn 80;plane pb node 23 tilt 5 turn 48;"
        + "plane pc node 9 tilt 6 turn 60;plane pd node 20 tilt 0 turn 80;craft ca in pa phase 0 reach 0;"
        + "craft cb in pa phase 40 reach 3;craft cc in pb phase 47 reach 4;craft cd in pb phase 30 reach 2;"
        + "craft ce in pc phase 7 reach 5;craft cf in pc phase 59 reach 3;craft cg in pd phase 79 reach 6;"
        + "craft ch in pd phase 60 reach 12;site sa at 0 0 from 0 to 80;site sb at 12 6 from 10 to 40;"
        + "site sc at 23 11 from 0 to 60;site sd at 5 5 from 3 to 70;site se at 7 2 from 0 to 79;"
        + "site sf at 18 9 from 79 to 80;";

    /** A desk's head, and eight craft alike in its plane p. */
    static String eight(String head, String phaseAndReach) {
        StringBuilder out = new StringBuilder(head);
        for (int i = 0; i < 8; i++) {
            out.append("craft ").append((char) ('a' + i)).append(" in p ").append(phaseAndReach).append(';');
        }
        return out.toString();
    }

    static void due(String what, long got, long want) {
        checks++;
        if (got != want) {
            wrong++;
            System.out.println(test + ": " + what + " answered " + got + ", due is " + want);
        }
    }

    static void due(String what, boolean got, boolean want) {
        due(what, got ? 1 : 0, want ? 1 : 0);
    }

    static void feed(OrbitDesk x, String text) {
        feed(x, text.getBytes(StandardCharsets.ISO_8859_1));
    }

    static void feed(OrbitDesk x, byte[] bytes) {
        int before = 0;
        for (int i = 0; i < bytes.length; i += 20) {
            int[] five = new int[5];
            for (int k = 0; k < 20; k++) {
                five[k / 4] = five[k / 4] << 8 | (i + k < bytes.length ? bytes[i + k] & 255 : 0);
            }
            before = x.feed(five[0], five[1], five[2], five[3], five[4]) - 20 - i;
        }
        x.end(before + bytes.length);
    }

    static void feed(OrbitDesk x, int... bytes) {
        byte[] out = new byte[bytes.length];
        for (int i = 0; i < bytes.length; i++) {
            out[i] = (byte) bytes[i];
        }
        feed(x, out);
    }

    static OrbitDesk desk(String text) {
        OrbitDesk x = new OrbitDesk();
        feed(x, text);
        if (x.desk() == NONE) {
            wrong++;
            System.out.println(test + ": no desk: " + text + " fault " + x.fault(0) + " at " + x.fault(1));
        }
        return x;
    }

    static void fault(String text, int kind, int place) {
        OrbitDesk x = new OrbitDesk();
        feed(x, text);
        due("desk() by '" + text + "'", x.desk(), NONE);
        due("fault(0) by '" + text + "'", x.fault(0), kind);
        due("fault(1) by '" + text + "'", x.fault(1), place);
        due("status(1) by '" + text + "'", x.status(1), 1);
    }

    /** The fault stands behind the ^, which is no part of the text. */
    static void faultBehind(int kind, String marked) {
        int place = marked.indexOf('^');
        fault(marked.substring(0, place) + marked.substring(place + 1), kind, place);
    }

    static void good(String text, int statements) {
        OrbitDesk x = new OrbitDesk();
        feed(x, text);
        due("desk() by '" + text + "'", x.desk(), statements);
        due("fault(0) by '" + text + "'", x.fault(0), 0);
        due("fault(1) by '" + text + "'", x.fault(1), NONE);
        due("status(1) by '" + text + "'", x.status(1), 0);
    }

    static int sum(float... shares) {
        return Float.floatToIntBits(total(shares));
    }

    static float total(float... shares) {
        float all = 0f;
        for (float share : shares) {
            all += share;
        }
        return all;
    }

    static int[] imageBytes(int... ahead) {
        int[] out = Arrays.copyOf(ahead, ahead.length + 1);
        int c = 167;
        for (int b : ahead) {
            c = (3 * c + b) % 251;
        }
        out[ahead.length] = c;
        return out;
    }

    /** Numbers that are none of 0 .. count less 1. */
    static int[] outside(int count) {
        return new int[] {-1, count, MIN, MAX, count + 1, count + 256, -count - 2};
    }

    /** All that acts, desks, notes can change, as a text; the tape and the refusals are not in it. */
    static String state(OrbitDesk x) {
        StringBuilder out = new StringBuilder();
        for (int what = 0; what <= 11; what++) {
            out.append(x.has(what)).append(' ');
        }
        for (int plane = 0; plane < x.has(3); plane++) {
            out.append(x.plane(plane, 0)).append(' ');
        }
        for (int craft = 0; craft < x.has(4); craft++) {
            out.append(x.craft(craft, 1)).append(' ').append(x.craft(craft, 2)).append(' ').append(x.craft(craft, 3))
                .append(' ');
        }
        return out.append(x.suspect(NONE)).append(' ').append(x.score()).toString();
    }

    /** What is seen, passed and missed, as a text. */
    static String sights(OrbitDesk x) {
        List<Long> out = new ArrayList<>();
        for (int t = 0; t < 5; t++) {
            long[] at = {x.cover(t), x.covered(t), x.soon(t), x.spot(0, t, 0), x.spot(0, t, 1), x.seen(t, 1, 1)};
            Arrays.stream(at).forEach(out::add);
        }
        for (int i = 0; i < 4; i++) {
            long[] of = {x.passes(i, i, NONE), x.gaps(i, i), x.mean(i, i), x.next(1, i, i), x.depth(i, i, 1),
                x.worst(i), x.site(i, 4), x.carry(1, 0, i), x.holders(1, i, 9)};
            Arrays.stream(of).forEach(out::add);
        }
        long[] last = {x.never(), x.score(), x.source(0, 9, 0)};
        Arrays.stream(last).forEach(out::add);
        return out.toString();
    }

    /** What is tried, call by call; each one is told by a number of 0 .. 13. */
    static int tried(OrbitDesk x, int which) {
        int what = which % 2;
        switch (which / 2) {
            case 0: return x.best(0, what);
            case 1: return x.even(0, what);
            case 2: return x.critical(1 + what);
            case 3: return x.relief(2, what);
            case 4: return x.bestNode(0, what);
            case 5: return x.fewest(5, what);
            default: return x.couple(1 + what);
        }
    }

    /** A call that is refused: false (or NONE, told as false), one refusal more of its kind alone, all else stays. */
    static void refuses(String what, int kind, Supplier<OrbitDesk> maker, Predicate<OrbitDesk> call) {
        OrbitDesk x = maker.get();
        int[] before = new int[6];
        for (int i = 0; i < 6; i++) {
            before[i] = x.status(i);
        }
        String stood = state(x);
        due(what, call.test(x), false);
        for (int i = 0; i < 6; i++) {
            due("status(" + i + ") behind " + what, x.status(i), before[i] + (i == kind ? 1 : 0));
        }
        due("all stays by " + what + ": " + stood, state(x).equals(stood), true);
    }
}
