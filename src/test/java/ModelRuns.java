import java.nio.charset.StandardCharsets;
import java.util.Random;

/** Runs of calls by chance, each answer held against the one of Model. */
public final class ModelRuns {
    private static final int NONE = -1;
    private static int wrong = 0;
    private static long calls = 0;

    private final Random random;
    private final Texts texts;
    private OrbitDesk x = new OrbitDesk();
    private Model m = new Model();
    private final StringBuilder log = new StringBuilder();
    private int columns = 8;
    private int rows = 6;
    private int craft = 4;
    private int planes = 2;
    private int sites = 3;
    private boolean small = true;

    private ModelRuns(long seed) {
        random = new Random(seed);
        texts = new Texts(random);
    }

    private void due(String call, long got, long want) {
        calls++;
        if (log.length() < 20000) {
            log.append(call).append(" -> ").append(want).append('\n');
        }
        if (got != want) {
            wrong++;
            if (wrong <= 3) {
                System.out.println("after these calls:\n" + log);
            }
            System.out.println(call + " answered " + got + ", due is " + want);
        }
    }

    private void due(String call, boolean got, boolean want) {
        due(call, got ? 1 : 0, want ? 1 : 0);
    }

    private int any(int below) {
        int[] edges = {-2, NONE, 0, below, below - 1, Integer.MIN_VALUE, Integer.MAX_VALUE, below + 1};
        if (random.nextInt(14) == 0) {
            return edges[random.nextInt(edges.length)];
        }
        return random.nextInt(Math.max(1, below));
    }

    private int tick() {
        return random.nextInt(4) == 0 ? any(10000) : any(300);
    }

    private void feedBytes(byte[] bytes) {
        for (int i = 0; i < bytes.length; i += 20) {
            int[] five = new int[5];
            for (int k = 0; k < 20; k++) {
                int b = i + k < bytes.length ? bytes[i + k] & 255 : random.nextInt(256);
                five[k / 4] = five[k / 4] << 8 | b;
            }
            due("feed " + i, x.feed(five[0], five[1], five[2], five[3], five[4]), m.feed(five));
        }
        due("end(" + bytes.length + ")", x.end(bytes.length), m.end(bytes.length));
    }

    private void feedText(String text) {
        log.append("text: ").append(text).append('\n');
        feedBytes(text.getBytes(StandardCharsets.ISO_8859_1));
    }

    private void deskBy(String text) {
        feedText(text);
        due("desk()", x.desk(), m.desk());
        due("fault(0)", x.fault(0), m.fault(0));
        due("fault(1)", x.fault(1), m.fault(1));
    }

    private void goodDesk() {
        String text;
        do {
            text = texts.good(small);
        } while (text.length() > 1600);
        deskBy(text);
        columns = texts.columns;
        rows = texts.rows;
        craft = texts.craft;
        planes = texts.turns.length;
        sites = texts.sites;
    }

    private void noteRows() {
        int n = random.nextInt(20) == 0 ? random.nextInt(90) : 4 * (1 + random.nextInt(3));
        byte[] bytes = new byte[n];
        int cycle = Math.max(1, m.has(7));
        for (int i = 0; i < n; i++) {
            int below = i % 4 == 0 ? cycle : i % 4 == 1 ? columns : i % 4 == 2 ? rows : 2;
            bytes[i] = (byte) (random.nextInt(40) == 0 ? random.nextInt(256) : random.nextInt(below));
        }
        for (int i = 0; i + 3 < n; i += 4) {
            int lost = random.nextInt(craft + 1);
            int left = m.seen(bytes[i] & 255, bytes[i + 1], bytes[i + 2]) - Math.max(0, m.sees(lost, bytes[i] & 255,
                bytes[i + 1], bytes[i + 2]));
            if (random.nextInt(5) != 0) {
                bytes[i + 3] = (byte) (left > 0 ? 1 : 0);
            }
        }
        feedBytes(bytes);
        due("note()", x.note(), m.note());
        due("suspect(-1)", x.suspect(NONE), m.suspect(NONE));
    }

    private void imageBack() {
        due("image()", x.image(), m.image());
        byte[] bytes = new byte[m.image()];
        int c = 167;
        for (int i = 0; i < bytes.length; i++) {
            due("octet(" + i + ")", x.octet(i), m.octet(i));
            bytes[i] = (byte) m.octet(i);
        }
        if (random.nextInt(3) == 0) {
            bytes[random.nextInt(bytes.length)] = (byte) (random.nextInt(3) == 0 ? random.nextInt(256)
                : random.nextInt(14));
        }
        if (random.nextInt(2) == 0) {
            for (int i = 0; i + 1 < bytes.length; i++) {
                c = (3 * c + (bytes[i] & 255)) % 251;
            }
            bytes[bytes.length - 1] = (byte) c;
        }
        for (int n = random.nextInt(4); n > 0; n--) {
            act();
        }
        feedBytes(random.nextInt(12) == 0 ? java.util.Arrays.copyOf(bytes, random.nextInt(32)) : bytes);
        due("on()", x.on(), m.on());
    }

    private void act() {
        int a = any(craft);
        int p = any(planes);
        int v = random.nextBoolean() ? any(13) : any(100);
        switch (random.nextInt(10)) {
            case 0: due("lose(" + a + ")", x.lose(a), m.lose(a)); break;
            case 1: due("find(" + a + ")", x.find(a), m.find(a)); break;
            case 2: due("phase(" + a + ", " + v + ")", x.phase(a, v), m.phase(a, v)); break;
            case 3: due("reach(" + a + ", " + v + ")", x.reach(a, v), m.reach(a, v)); break;
            case 4: due("node(" + p + ", " + v + ")", x.node(p, v), m.node(p, v)); break;
            case 5: due("spread(" + p + ", " + v + ")", x.spread(p, v), m.spread(p, v)); break;
            case 6: case 7: due("chance(" + v + ")", x.chance(v), m.chance(v)); break;
            case 8: due("undo()", x.undo(), m.undo()); break;
            default:
                int seed = any(Integer.MAX_VALUE);
                due("seed(" + seed + ")", x.seed(seed), m.seed(seed));
                break;
        }
    }

    private void askPlain() {
        int a = any(craft);
        int p = any(planes);
        int s = any(sites);
        int w = any(7);
        int k = any(6);
        switch (random.nextInt(8)) {
            case 0: w = any(12); due("has(" + w + ")", x.has(w), m.has(w)); break;
            case 1:
                int kind = any(3);
                due("letter(" + kind + ", " + a + ", " + k + ")", x.letter(kind, a, k), m.letter(kind, a, k));
                break;
            case 2: due("plane(" + p + ", " + w + ")", x.plane(p, w), m.plane(p, w)); break;
            case 3: due("craft(" + a + ", " + w + ")", x.craft(a, w), m.craft(a, w)); break;
            case 4: due("site(" + s + ", " + w + ")", x.site(s, w), m.site(s, w)); break;
            case 5: due("width(" + w + ")", x.width(w), m.width(w)); break;
            case 6: due("status(" + w + ")", x.status(w), m.status(w)); break;
            default: due("fault(" + k + ")", x.fault(k), m.fault(k)); break;
        }
    }

    private void askCell() {
        int t = tick();
        int c = any(columns);
        int r = any(rows);
        int a = any(craft);
        int k = any(4);
        int w = any(3);
        int by = random.nextInt(3) == 0 ? NONE : a;
        String cell = c + ", " + r;
        switch (random.nextInt(13)) {
            case 0: due("spot(" + a + ", " + t + ", " + w + ")", x.spot(a, t, w), m.spot(a, t, w)); break;
            case 1: due("sees(" + a + ", " + t + ", " + cell + ")", x.sees(a, t, c, r), m.sees(a, t, c, r)); break;
            case 2: due("seen(" + t + ", " + cell + ")", x.seen(t, c, r), m.seen(t, c, r)); break;
            case 3: due("passes(" + cell + ", " + by + ")", x.passes(c, r, by), m.passes(c, r, by)); break;
            case 4: case 5:
                due("pass(" + cell + ", " + by + ", " + k + ", " + w + ")", x.pass(c, r, by, k, w),
                    m.pass(c, r, by, k, w));
                break;
            case 6: due("gaps(" + cell + ")", x.gaps(c, r), m.gaps(c, r)); break;
            case 7: case 8:
                due("gap(" + cell + ", " + k + ", " + w + ")", x.gap(c, r, k, w), m.gap(c, r, k, w));
                break;
            case 9: due("greatest(" + cell + ")", x.greatest(c, r), m.greatest(c, r)); break;
            case 10: due("mean(" + cell + ")", x.mean(c, r), m.mean(c, r)); break;
            case 11: due("next(" + t + ", " + cell + ")", x.next(t, c, r), m.next(t, c, r)); break;
            default: due("depth(" + cell + ", " + w + ")", x.depth(c, r, w), m.depth(c, r, w)); break;
        }
    }

    private void askCover() {
        int t = tick();
        int w = any(3);
        int s = any(sites);
        int o = any(sites);
        int n = any(random.nextBoolean() ? 481 : 20);
        int k = random.nextInt(3) == 0 ? NONE : any(9);
        switch (random.nextInt(14)) {
            case 0: due("covered(" + t + ")", x.covered(t), m.covered(t)); break;
            case 1: due("cover(" + t + ")", x.cover(t), m.cover(t)); break;
            case 2: due("score()", x.score(), m.score()); break;
            case 3: case 4: due("worst(" + w + ")", x.worst(w), m.worst(w)); break;
            case 5: due("never()", x.never(), m.never()); break;
            case 6: due("soon(" + t + ")", x.soon(t), m.soon(t)); break;
            case 7:
                boolean most = random.nextBoolean();
                due("extreme(" + most + ", " + w + ")", x.extreme(most, w), m.extreme(most, w));
                break;
            case 8: case 9:
                due("carry(" + t + ", " + s + ", " + o + ")", x.carry(t, s, o), m.carry(t, s, o));
                break;
            case 10: due("holders(" + t + ", " + s + ", " + n + ")", x.holders(t, s, n), m.holders(t, s, n)); break;
            case 11: due("source(" + t + ", " + n + ", " + w + ")", x.source(t, n, w), m.source(t, n, w)); break;
            case 12: due("suspect(" + k + ")", x.suspect(k), m.suspect(k)); break;
            default: due("tells(" + w + ")", x.tells(w), m.tells(w)); break;
        }
    }

    private void askTried() {
        int a = any(craft);
        int b = any(craft);
        int p = any(planes);
        int w = any(3);
        int g = any(random.nextBoolean() ? 12 : 260);
        switch (random.nextInt(8)) {
            case 0: due("best(" + a + ", " + w + ")", x.best(a, w), m.best(a, w)); break;
            case 1: due("even(" + p + ", " + w + ")", x.even(p, w), m.even(p, w)); break;
            case 2: due("critical(" + w + ")", x.critical(w), m.critical(w)); break;
            case 3: due("relief(" + a + ", " + w + ")", x.relief(a, w), m.relief(a, w)); break;
            case 4: due("bestNode(" + p + ", " + w + ")", x.bestNode(p, w), m.bestNode(p, w)); break;
            case 5: due("fewest(" + g + ", " + w + ")", x.fewest(g, w), m.fewest(g, w)); break;
            case 6: due("meets(" + a + ", " + b + ")", x.meets(a, b), m.meets(a, b)); break;
            default: due("couple(" + w + ")", x.couple(w), m.couple(w)); break;
        }
    }

    private void step(int heavy) {
        int kind = random.nextInt(100);
        if (kind < 30) {
            askCell();
        } else if (kind < 45) {
            askPlain();
        } else if (kind < 65) {
            askCover();
        } else if (kind < 65 + heavy) {
            askTried();
        } else if (kind < 90) {
            act();
        } else if (kind < 95) {
            noteRows();
        } else if (kind < 98) {
            imageBack();
        } else if (kind < 99) {
            deskBy(texts.changed(texts.good(small)));
            columns = Math.max(1, m.has(0));
            rows = Math.max(1, m.has(1));
            planes = m.has(3);
            craft = m.has(4);
            sites = m.has(6);
        } else {
            goodDesk();
        }
    }

    private void run(int steps, int heavy) {
        if (random.nextInt(20) != 0) {
            goodDesk();
        }
        for (int i = 0; i < steps; i++) {
            step(heavy);
        }
    }

    private void faults(int count) {
        for (int i = 0; i < count; i++) {
            log.setLength(0);
            deskBy(texts.changed(texts.good(random.nextBoolean())));
            if (i % 50 == 49) {
                x = new OrbitDesk();
                m = new Model();
            }
        }
    }

    public static void main(String[] args) {
        int scale = args.length > 0 ? Integer.parseInt(args[0]) : 1;
        long from = args.length > 1 ? Long.parseLong(args[1]) : 0;
        for (long seed = from; seed < from + 300L * scale && wrong < 20; seed++) {
            new ModelRuns(seed).run(250, 10);
        }
        for (long seed = from; seed < from + 12L * scale && wrong < 20; seed++) {
            ModelRuns big = new ModelRuns(7000 + seed);
            big.small = false;
            big.run(60, 3);
        }
        for (long seed = from; seed < from + 40L * scale && wrong < 20; seed++) {
            new ModelRuns(9000 + seed).faults(400);
        }
        System.out.println("ModelRuns: " + calls + " calls, " + wrong + " wrong");
        if (wrong != 0) {
            System.exit(1);
        }
    }
}
