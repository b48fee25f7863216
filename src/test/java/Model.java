import java.util.ArrayList;
import java.util.Arrays;
import java.util.HashMap;
import java.util.List;
import java.util.Map;

/**
 * The document read once more, cell by cell and tick by tick, with no thought of speed: what OrbitDesk answers is
 * held against this. Nothing of the program is used here.
 */
final class Model {
    static final int NONE = -1;

    static final class Craft implements Cloneable {
        String name;
        int plane;
        int phase;
        int reach;
        boolean up = true;

        Craft copy() {
            try {
                return (Craft) clone();
            } catch (CloneNotSupportedException e) {
                throw new IllegalStateException(e);
            }
        }
    }

    static final class Plane {
        String name;
        int tilt;
        int turn;
    }

    static final class Site {
        String name;
        int column;
        int row;
        int from;
        int to;
    }

    /** What acts change. */
    static final class State {
        List<Integer> nodes = new ArrayList<>();
        List<Craft> craft = new ArrayList<>();

        State copy() {
            State s = new State();
            s.nodes.addAll(nodes);
            for (Craft c : craft) {
                s.craft.add(c.copy());
            }
            return s;
        }
    }

    static final class Fault extends RuntimeException {
        private static final long serialVersionUID = 1;

        final int kind;
        final int place;

        Fault(int kind, int place) {
            this.kind = kind;
            this.place = place;
        }
    }

    private List<Integer> tape = new ArrayList<>();
    private boolean desk = false;
    private int columns;
    private int rows;
    private int day;
    private int cycle;
    private List<Plane> planes = new ArrayList<>();
    private List<Site> sites = new ArrayList<>();
    private State state = new State();
    private List<State> past = new ArrayList<>();
    private List<int[]> noted = new ArrayList<>();
    private int[] octets = new int[0];
    private int faultKind = 0;
    private int faultPlace = NONE;
    private long seed = 1;
    private final int[] refusals = new int[6];

    private int no(int kind) {
        refusals[kind]++;
        return NONE;
    }

    private boolean not(int kind) {
        refusals[kind]++;
        return false;
    }

    // ---- tape, desk

    int feed(int... five) {
        if (tape.size() + 20 > 1600) {
            return no(0);
        }
        for (int n : five) {
            for (int i = 3; i >= 0; i--) {
                tape.add((n >> (8 * i)) & 0xff);
            }
        }
        return tape.size();
    }

    boolean end(int n) {
        if (n < 0 || n > tape.size()) {
            return not(0);
        }
        tape = new ArrayList<>(tape.subList(0, n));
        return true;
    }

    private List<Integer> takeTape() {
        List<Integer> all = tape;
        tape = new ArrayList<>();
        return all;
    }

    private static final List<String> OWN = List.of("grid", "by", "day", "plane", "node", "tilt", "turn", "craft",
        "in", "phase", "reach", "site", "at", "from", "to");

    /** A text taken apart by what is asked at each place. */
    private static final class Cursor {
        final String text;
        int p = 0;
        int start = 0;

        Cursor(String text) {
            this.text = text;
        }

        char sign(int k) {
            return k < text.length() ? text.charAt(k) : (char) 0x1000;
        }

        boolean letter(int k) {
            return "abcdefghijklmnopqrstuvwxyz".indexOf(sign(k)) >= 0;
        }

        boolean digit(int k) {
            return "0123456789".indexOf(sign(k)) >= 0;
        }

        void blanks() {
            while (sign(p) == 10 || sign(p) == 32) {
                p++;
            }
        }

        /** The next word or number begins here, parted from one ahead of it. */
        void begin(boolean word) {
            int was = p;
            blanks();
            boolean parted = p > was || p == 0 || !(letter(p - 1) || digit(p - 1));
            if (!parted || !(word ? letter(p) : digit(p))) {
                throw new Fault(1, p);
            }
            start = p;
        }

        String word() {
            begin(true);
            while (letter(p)) {
                p++;
            }
            return text.substring(start, p);
        }

        void word(String w) {
            if (!word().equals(w)) {
                throw new Fault(1, start);
            }
        }

        String name() {
            String w = word();
            if (w.length() > 6) {
                throw new Fault(1, start + 6);
            }
            if (OWN.contains(w)) {
                throw new Fault(1, start);
            }
            return w;
        }

        int number(int least, int most) {
            begin(false);
            while (digit(p)) {
                if (p == start + 2) {
                    throw new Fault(1, p);
                }
                p++;
            }
            int n = Integer.parseInt(text.substring(start, p));
            if (n < least || n > most) {
                throw new Fault(2, start);
            }
            return n;
        }

        void semicolon() {
            blanks();
            if (sign(p) != ';') {
                throw new Fault(1, p);
            }
            p++;
        }

        boolean over() {
            blanks();
            return p == text.length();
        }
    }

    int desk() {
        StringBuilder b = new StringBuilder();
        for (int n : takeTape()) {
            b.append((char) n);
        }
        Model fresh = new Model();
        int statements;
        try {
            statements = fresh.parse(new Cursor(b.toString()));
        } catch (Fault f) {
            faultKind = f.kind;
            faultPlace = f.place;
            return no(1);
        }
        faultKind = 0;
        faultPlace = NONE;
        desk = true;
        columns = fresh.columns;
        rows = fresh.rows;
        day = fresh.day;
        cycle = fresh.cycle;
        planes = fresh.planes;
        sites = fresh.sites;
        state = fresh.state;
        past.clear();
        noted.clear();
        return statements;
    }

    private int parse(Cursor c) {
        c.word("grid");
        columns = c.number(4, 24);
        c.word("by");
        rows = c.number(3, 12);
        c.word("day");
        day = c.number(2, 96);
        c.semicolon();
        int n = 1;
        Map<String, Integer> names = new HashMap<>();
        while (!c.over()) {
            String kind = c.word();
            if (kind.equals("plane")) {
                parsePlane(c, names);
            } else if (kind.equals("craft")) {
                parseCraft(c, names);
            } else if (kind.equals("site")) {
                parseSite(c, names);
            } else {
                throw new Fault(1, c.start);
            }
            c.semicolon();
            n++;
        }
        cycle = day;
        for (Plane p : planes) {
            int k = cycle;
            while (k % p.turn != 0) {
                k += cycle;
            }
            cycle = k;
        }
        if (cycle > 240) {
            throw new Fault(6, c.text.length());
        }
        return n;
    }

    private String fresh(Cursor c, Map<String, Integer> names) {
        String name = c.name();
        if (names.containsKey(name)) {
            throw new Fault(3, c.start);
        }
        names.put(name, NONE);
        return name;
    }

    private void parsePlane(Cursor c, Map<String, Integer> names) {
        if (planes.size() == 4) {
            throw new Fault(5, c.start);
        }
        Plane p = new Plane();
        p.name = fresh(c, names);
        c.word("node");
        int node = c.number(0, columns - 1);
        c.word("tilt");
        p.tilt = c.number(0, rows / 2);
        c.word("turn");
        p.turn = c.number(2, 96);
        names.put(p.name, planes.size());
        planes.add(p);
        state.nodes.add(node);
    }

    private void parseCraft(Cursor c, Map<String, Integer> names) {
        if (state.craft.size() == 8) {
            throw new Fault(5, c.start);
        }
        Craft k = new Craft();
        k.name = fresh(c, names);
        c.word("in");
        k.plane = names.getOrDefault(c.name(), NONE);
        if (k.plane == NONE) {
            throw new Fault(3, c.start);
        }
        c.word("phase");
        k.phase = c.number(0, planes.get(k.plane).turn - 1);
        c.word("reach");
        k.reach = c.number(0, 12);
        state.craft.add(k);
    }

    private void parseSite(Cursor c, Map<String, Integer> names) {
        if (sites.size() == 6) {
            throw new Fault(5, c.start);
        }
        Site s = new Site();
        s.name = fresh(c, names);
        c.word("at");
        s.column = c.number(0, columns - 1);
        s.row = c.number(0, rows - 1);
        c.word("from");
        s.from = c.number(0, day - 1);
        c.word("to");
        s.to = c.number(s.from + 1, day);
        sites.add(s);
    }

    int fault(int what) {
        return what == 0 ? faultKind : what == 1 ? faultPlace : NONE;
    }

    int has(int what) {
        int up = 0;
        for (Craft c : state.craft) {
            up += c.up ? 1 : 0;
        }
        int[] all = {columns, rows, day, planes.size(), state.craft.size(), up, sites.size(), cycle, all(),
            noted.size(), past.size(), (int) seed};
        return what >= 0 && what < all.length ? all[what] : NONE;
    }

    private int all() {
        int all = 0;
        for (int r = 0; r < rows; r++) {
            for (int c = 0; c < columns; c++) {
                all += width(r);
            }
        }
        return all;
    }

    int letter(int kind, int which, int k) {
        String name = null;
        if (kind == 0 && planeOk(which)) {
            name = planes.get(which).name;
        } else if (kind == 1 && craftOk(which)) {
            name = state.craft.get(which).name;
        } else if (kind == 2 && siteOk(which)) {
            name = sites.get(which).name;
        }
        if (name == null || k < 0 || k > 5) {
            return NONE;
        }
        return k < name.length() ? name.charAt(k) - 96 : 0;
    }

    int plane(int plane, int what) {
        if (!planeOk(plane) || what < 0 || what > 3) {
            return NONE;
        }
        Plane p = planes.get(plane);
        int[] all = {state.nodes.get(plane), p.tilt, p.turn, in(state, plane, false).size()};
        return all[what];
    }

    int craft(int craft, int what) {
        if (!craftOk(craft) || what < 0 || what > 3) {
            return NONE;
        }
        Craft c = state.craft.get(craft);
        return new int[] {c.plane, c.phase, c.reach, c.up ? 1 : 0}[what];
    }

    int site(int site, int what) {
        if (!siteOk(site) || what < 0 || what > 5) {
            return NONE;
        }
        Site s = sites.get(site);
        int count = 0;
        int ticks = 0;
        for (int[] pass : passList(s.column, s.row, NONE)) {
            int begins = pass[0] % day;
            if (s.from <= begins && begins + pass[1] <= s.to) {
                count++;
                ticks += pass[1];
            }
        }
        return new int[] {s.column, s.row, s.from, s.to, count, ticks}[what];
    }

    private boolean planeOk(int p) {
        return p >= 0 && p < planes.size();
    }

    private boolean craftOk(int c) {
        return c >= 0 && c < state.craft.size();
    }

    private boolean siteOk(int s) {
        return s >= 0 && s < sites.size();
    }

    private boolean cellOk(int column, int row) {
        return column >= 0 && column < columns && row >= 0 && row < rows;
    }

    private boolean tickOk(int t) {
        return desk && t >= 0 && t <= 9999;
    }

    private static List<Integer> in(State s, int plane, boolean upOnly) {
        List<Integer> list = new ArrayList<>();
        for (int i = 0; i < s.craft.size(); i++) {
            if (s.craft.get(i).plane == plane && (s.craft.get(i).up || !upOnly)) {
                list.add(i);
            }
        }
        return list;
    }

    // ---- where they are, what they see

    private int[] at(State s, int craft, int t) {
        Craft c = s.craft.get(craft);
        Plane p = planes.get(c.plane);
        int u = (c.phase + t) % p.turn;
        int v = 4 * u * p.tilt / p.turn;
        int up;
        if (v <= p.tilt) {
            up = v;
        } else if (v <= 3 * p.tilt) {
            up = 2 * p.tilt - v;
        } else {
            up = v - 4 * p.tilt;
        }
        int row = rows / 2 + up;
        if (row > rows - 1) {
            row = rows - 1;
        }
        int column = s.nodes.get(c.plane) + columns * u / p.turn - columns * (t % day) / day;
        while (column < 0) {
            column += columns;
        }
        return new int[] {column % columns, row};
    }

    private boolean look(State s, int craft, int t, int column, int row) {
        Craft c = s.craft.get(craft);
        if (!c.up) {
            return false;
        }
        int[] at = at(s, craft, t);
        int dx = Math.abs(at[0] - column);
        dx = Math.min(dx, columns - dx);
        int dy = at[1] - row;
        return Math.pow(dx * width(row), 2) + Math.pow(dy * rows, 2) <= Math.pow(c.reach * rows, 2);
    }

    private int lookers(State s, int t, int column, int row) {
        int n = 0;
        for (int i = 0; i < s.craft.size(); i++) {
            n += look(s, i, t, column, row) ? 1 : 0;
        }
        return n;
    }

    int spot(int craft, int tick, int what) {
        return craftOk(craft) && tickOk(tick) && what >= 0 && what <= 1 ? at(state, craft, tick)[what] : NONE;
    }

    int sees(int craft, int tick, int column, int row) {
        if (!craftOk(craft) || !tickOk(tick) || !cellOk(column, row)) {
            return NONE;
        }
        return look(state, craft, tick, column, row) ? 1 : 0;
    }

    int seen(int tick, int column, int row) {
        return tickOk(tick) && cellOk(column, row) ? lookers(state, tick, column, row) : NONE;
    }

    int width(int row) {
        return row >= 0 && row < rows ? rows - Math.abs(2 * row - (rows - 1)) / 2 : NONE;
    }

    // ---- passes, gaps

    /** Runs of true round the ring, as begin and length, rising. */
    static List<int[]> runs(boolean[] ring) {
        int n = ring.length;
        List<int[]> list = new ArrayList<>();
        int hole = NONE;
        for (int i = 0; i < n; i++) {
            if (!ring[i]) {
                hole = i;
            }
        }
        if (hole == NONE) {
            list.add(new int[] {0, n});
            return list;
        }
        int length = 0;
        for (int i = 1; i <= n; i++) {
            if (ring[(hole + i) % n]) {
                length++;
            } else if (length > 0) {
                list.add(new int[] {(hole + i - length) % n, length});
                length = 0;
            }
        }
        list.sort((a, b) -> a[0] - b[0]);
        return list;
    }

    private List<int[]> passList(int column, int row, int craft) {
        List<int[]> list = new ArrayList<>();
        for (int c = 0; c < state.craft.size(); c++) {
            if (craft != NONE && craft != c) {
                continue;
            }
            boolean[] ring = new boolean[cycle];
            for (int t = 0; t < cycle; t++) {
                ring[t] = look(state, c, t, column, row);
            }
            for (int[] run : runs(ring)) {
                list.add(new int[] {run[0], run[1], c});
            }
        }
        list.sort((a, b) -> a[0] != b[0] ? a[0] - b[0] : a[2] - b[2]);
        return list;
    }

    private List<int[]> gapList(State s, int column, int row) {
        boolean[] ring = new boolean[cycle];
        for (int t = 0; t < cycle; t++) {
            ring[t] = lookers(s, t, column, row) == 0;
        }
        return runs(ring);
    }

    int passes(int column, int row, int craft) {
        if (!cellOk(column, row) || (craft != NONE && !craftOk(craft))) {
            return NONE;
        }
        return passList(column, row, craft).size();
    }

    int pass(int column, int row, int craft, int k, int what) {
        if (passes(column, row, craft) == NONE || k < 0 || what < 0 || what > 2) {
            return NONE;
        }
        List<int[]> list = passList(column, row, craft);
        return k < list.size() ? list.get(k)[what] : NONE;
    }

    int gaps(int column, int row) {
        return cellOk(column, row) ? gapList(state, column, row).size() : NONE;
    }

    int gap(int column, int row, int k, int what) {
        if (!cellOk(column, row) || k < 0 || what < 0 || what > 1) {
            return NONE;
        }
        List<int[]> list = gapList(state, column, row);
        return k < list.size() ? list.get(k)[what] : NONE;
    }

    int greatest(int column, int row) {
        return cellOk(column, row) ? greatestOf(state, column, row) : NONE;
    }

    private int greatestOf(State s, int column, int row) {
        int g = 0;
        for (int[] run : gapList(s, column, row)) {
            g = Math.max(g, run[1]);
        }
        return g;
    }

    long mean(int column, int row) {
        if (!cellOk(column, row) || gaps(column, row) == 0) {
            return NONE;
        }
        double sum = 0;
        for (int[] run : gapList(state, column, row)) {
            sum += run[1];
        }
        return Double.doubleToLongBits(sum / gaps(column, row));
    }

    // ---- cover

    int covered(int tick) {
        return tickOk(tick) ? coveredIn(state, tick) : NONE;
    }

    private int coveredIn(State s, int tick) {
        int n = 0;
        for (int r = 0; r < rows; r++) {
            for (int c = 0; c < columns; c++) {
                n += lookers(s, tick, c, r) > 0 ? 1 : 0;
            }
        }
        return n;
    }

    private float coverIn(State s, int tick) {
        float sum = 0f;
        float all = (float) all();
        for (int r = 0; r < rows; r++) {
            for (int c = 0; c < columns; c++) {
                if (lookers(s, tick, c, r) > 0) {
                    float by = (float) width(r) / all;
                    sum += by;
                }
            }
        }
        return sum;
    }

    private float scoreOf(State s) {
        float sum = 0f;
        for (int t = 0; t < cycle; t++) {
            float by = coverIn(s, t) / (float) cycle;
            sum += by;
        }
        return sum;
    }

    private int worstOf(State s) {
        int worst = 0;
        for (int r = 0; r < rows; r++) {
            for (int c = 0; c < columns; c++) {
                worst = Math.max(worst, greatestOf(s, c, r));
            }
        }
        return worst;
    }

    int cover(int tick) {
        return tickOk(tick) ? Float.floatToIntBits(coverIn(state, tick)) : NONE;
    }

    int score() {
        return desk ? Float.floatToIntBits(scoreOf(state)) : NONE;
    }

    int worst(int what) {
        if (!desk || what < 0 || what > 2) {
            return NONE;
        }
        int worst = worstOf(state);
        for (int r = 0; r < rows; r++) {
            for (int c = 0; c < columns; c++) {
                if (greatestOf(state, c, r) == worst) {
                    return new int[] {worst, c, r}[what];
                }
            }
        }
        throw new IllegalStateException();
    }

    int never() {
        if (!desk) {
            return NONE;
        }
        int n = 0;
        for (int r = 0; r < rows; r++) {
            for (int c = 0; c < columns; c++) {
                n += next(0, c, r) == NONE ? 1 : 0;
            }
        }
        return n;
    }

    int soon(int tick) {
        if (!tickOk(tick)) {
            return NONE;
        }
        int last = 0;
        for (int r = 0; r < rows; r++) {
            for (int c = 0; c < columns; c++) {
                int n = next(tick, c, r);
                if (n == NONE) {
                    return NONE;
                }
                last = Math.max(last, n + 1);
            }
        }
        return last;
    }

    int next(int tick, int column, int row) {
        if (!tickOk(tick) || !cellOk(column, row)) {
            return NONE;
        }
        for (int n = 0; n < cycle; n++) {
            if (lookers(state, tick + n, column, row) > 0) {
                return n;
            }
        }
        return NONE;
    }

    // ---- tried

    private void spreadOut(State s, int plane, int phase) {
        List<Integer> mates = in(s, plane, true);
        int turn = planes.get(plane).turn;
        for (int k = 0; k < mates.size(); k++) {
            s.craft.get(mates.get(k)).phase = (phase + k * turn / mates.size()) % turn;
        }
    }

    int best(int craft, int what) {
        if (!craftOk(craft) || what < 0 || what > 1) {
            return NONE;
        }
        int turn = planes.get(state.craft.get(craft).plane).turn;
        int best = NONE;
        float top = 0;
        for (int p = turn - 1; p >= 0; p--) {
            State s = state.copy();
            s.craft.get(craft).phase = p;
            float score = scoreOf(s);
            if (best == NONE || score >= top) {
                best = p;
                top = score;
            }
        }
        return what == 0 ? best : Float.floatToIntBits(top);
    }

    int even(int plane, int what) {
        if (!planeOk(plane) || in(state, plane, true).isEmpty() || what < 0 || what > 1) {
            return NONE;
        }
        List<float[]> tries = new ArrayList<>();
        for (int p = 0; p < planes.get(plane).turn; p++) {
            State s = state.copy();
            spreadOut(s, plane, p);
            tries.add(new float[] {worstOf(s), -scoreOf(s), p});
        }
        float[] first = least(tries);
        return what == 0 ? (int) first[2] : (int) first[0];
    }

    private static float[] least(List<float[]> rows) {
        rows.sort((a, b) -> Arrays.compare(a, b));
        return rows.get(0);
    }

    int critical(int what) {
        List<float[]> tries = new ArrayList<>();
        for (int c = 0; c < state.craft.size(); c++) {
            if (state.craft.get(c).up) {
                State s = state.copy();
                s.craft.get(c).up = false;
                tries.add(new float[] {-worstOf(s), scoreOf(s), c});
            }
        }
        if (tries.isEmpty() || what < 0 || what > 2) {
            return NONE;
        }
        float[] first = least(tries);
        return what == 0 ? (int) first[2] : what == 1 ? (int) -first[0] : Float.floatToIntBits(first[1]);
    }

    int relief(int craft, int what) {
        if (!craftOk(craft) || state.craft.get(craft).up || what < 0 || what > 1) {
            return NONE;
        }
        List<float[]> tries = new ArrayList<>();
        for (int c : in(state, state.craft.get(craft).plane, true)) {
            State s = state.copy();
            s.craft.get(c).phase = s.craft.get(craft).phase;
            tries.add(new float[] {worstOf(s), -scoreOf(s), c});
        }
        if (tries.isEmpty()) {
            return NONE;
        }
        float[] first = least(tries);
        return what == 0 ? (int) first[2] : (int) first[0];
    }

    int bestNode(int plane, int what) {
        if (!planeOk(plane) || what < 0 || what > 1) {
            return NONE;
        }
        List<float[]> tries = new ArrayList<>();
        for (int n = 0; n < columns; n++) {
            State s = state.copy();
            s.nodes.set(plane, n);
            tries.add(new float[] {-scoreOf(s), n});
        }
        float[] first = least(tries);
        return what == 0 ? (int) first[1] : Float.floatToIntBits(0f - first[0]);
    }

    int fewest(int gap, int what) {
        if (!desk || gap < 0 || what < 0 || what > 1) {
            return NONE;
        }
        int[] best = null;
        for (int bits = 0; bits < 1 << state.craft.size(); bits++) {
            State s = state.copy();
            boolean can = true;
            for (int c = 0; c < s.craft.size(); c++) {
                boolean want = (bits & 1 << c) != 0;
                can &= !want || s.craft.get(c).up;
                s.craft.get(c).up = want;
            }
            int n = Integer.bitCount(bits);
            if (can && (best == null || n < best[1]) && worstOf(s) <= gap) {
                best = new int[] {bits, n};
            }
        }
        return best == null ? NONE : best[what];
    }

    int meets(int one, int other) {
        if (!craftOk(one) || !craftOk(other) || one == other) {
            return NONE;
        }
        int n = 0;
        for (int t = 0; t < cycle; t++) {
            n += Arrays.equals(at(state, one, t), at(state, other, t)) ? 1 : 0;
        }
        return n;
    }

    int extreme(boolean most, int what) {
        if (!desk || what < 0 || what > 1) {
            return NONE;
        }
        int tick = 0;
        for (int t = 0; t < cycle; t++) {
            int more = coveredIn(state, t) - coveredIn(state, tick);
            if (most ? more > 0 : more < 0) {
                tick = t;
            }
        }
        return what == 0 ? tick : coveredIn(state, tick);
    }

    int depth(int column, int row, int what) {
        if (!cellOk(column, row) || what < 0 || what > 2) {
            return NONE;
        }
        int most = NONE;
        int first = NONE;
        int two = 0;
        for (int t = 0; t < cycle; t++) {
            int n = lookers(state, t, column, row);
            if (n > most) {
                most = n;
                first = t;
            }
            two += n > 1 ? 1 : 0;
        }
        return new int[] {most, first, two}[what];
    }

    int couple(int what) {
        List<float[]> tries = new ArrayList<>();
        for (int a = 0; a < state.craft.size(); a++) {
            for (int b = a + 1; b < state.craft.size(); b++) {
                if (state.craft.get(a).up && state.craft.get(b).up) {
                    State s = state.copy();
                    s.craft.get(a).up = false;
                    s.craft.get(b).up = false;
                    tries.add(new float[] {-worstOf(s), a, b});
                }
            }
        }
        if (tries.isEmpty() || what < 0 || what > 2) {
            return NONE;
        }
        float[] first = least(tries);
        return new int[] {(int) first[1], (int) first[2], (int) -first[0]}[what];
    }

    // ---- what is carried

    /** Who has it after each of n ticks; entry 0 is ahead of the first. */
    private int[] carried(int tick, int from, int n) {
        boolean[] site = new boolean[sites.size()];
        boolean[] held = new boolean[state.craft.size()];
        site[from] = true;
        int[] out = new int[n + 1];
        for (int i = 0; i <= n; i++) {
            for (int s = 0; s < site.length; s++) {
                out[i] |= site[s] ? 1 << s : 0;
            }
            for (int c = 0; c < held.length; c++) {
                for (int s = 0; s < site.length; s++) {
                    held[c] |= site[s] && look(state, c, tick + i, sites.get(s).column, sites.get(s).row);
                }
            }
            for (int c = 0; c < held.length; c++) {
                for (int s = 0; s < site.length; s++) {
                    site[s] |= held[c] && look(state, c, tick + i, sites.get(s).column, sites.get(s).row);
                }
            }
        }
        return out;
    }

    int carry(int tick, int from, int to) {
        if (!tickOk(tick) || !siteOk(from) || !siteOk(to)) {
            return NONE;
        }
        int[] out = carried(tick, from, 2 * cycle);
        for (int n = 0; n < out.length; n++) {
            if ((out[n] & 1 << to) != 0) {
                return n;
            }
        }
        return NONE;
    }

    int holders(int tick, int from, int n) {
        return tickOk(tick) && siteOk(from) && n >= 0 && n <= 480 ? carried(tick, from, n)[n] : NONE;
    }

    int source(int tick, int n, int what) {
        if (!tickOk(tick) || sites.isEmpty() || n < 0 || n > 480 || what < 0 || what > 1) {
            return NONE;
        }
        int best = NONE;
        int most = NONE;
        for (int s = 0; s < sites.size(); s++) {
            int k = Integer.bitCount(carried(tick, s, n)[n]);
            if (k > most) {
                best = s;
                most = k;
            }
        }
        return what == 0 ? best : most;
    }

    // ---- what was noted

    int note() {
        List<Integer> bytes = takeTape();
        if (!desk || bytes.isEmpty() || bytes.size() % 4 != 0 || bytes.size() > 64) {
            return no(5);
        }
        List<int[]> list = new ArrayList<>();
        for (int i = 0; i < bytes.size(); i += 4) {
            int[] row = {bytes.get(i), bytes.get(i + 1), bytes.get(i + 2), bytes.get(i + 3)};
            if (row[0] >= cycle || row[1] >= columns || row[2] >= rows || row[3] > 1) {
                return no(5);
            }
            list.add(row);
        }
        noted = list;
        return list.size();
    }

    private State without(int craft) {
        State s = state.copy();
        if (craft < s.craft.size()) {
            s.craft.get(craft).up = false;
        }
        return s;
    }

    private List<Integer> suspects() {
        List<Integer> list = new ArrayList<>();
        for (int c = 0; c <= state.craft.size(); c++) {
            if (c < state.craft.size() && !state.craft.get(c).up) {
                continue;
            }
            State s = without(c);
            boolean so = true;
            for (int[] row : noted) {
                so &= (lookers(s, row[0], row[1], row[2]) > 0) == (row[3] == 1);
            }
            if (so) {
                list.add(c);
            }
        }
        return list;
    }

    int suspect(int k) {
        if (!desk) {
            return NONE;
        }
        List<Integer> list = suspects();
        return k == NONE ? list.size() : k >= 0 && k < list.size() ? list.get(k) : NONE;
    }

    int tells(int what) {
        if (!desk || suspects().isEmpty() || what < 0 || what > 1) {
            return NONE;
        }
        int tick = NONE;
        int fewest = 99;
        for (int t = 0; t < cycle; t++) {
            Map<Integer, Integer> groups = new HashMap<>();
            int most = 0;
            for (int c : suspects()) {
                most = Math.max(most, groups.merge(coveredIn(without(c), t), 1, Integer::sum));
            }
            if (most < fewest) {
                fewest = most;
                tick = t;
            }
        }
        return what == 0 ? tick : fewest;
    }

    // ---- acts

    private void act() {
        past.add(state.copy());
        if (past.size() > 20) {
            past.remove(0);
        }
    }

    boolean lose(int craft) {
        if (!craftOk(craft) || !state.craft.get(craft).up) {
            return not(2);
        }
        act();
        state.craft.get(craft).up = false;
        return true;
    }

    boolean find(int craft) {
        if (!craftOk(craft) || state.craft.get(craft).up) {
            return not(2);
        }
        act();
        state.craft.get(craft).up = true;
        return true;
    }

    boolean phase(int craft, int phase) {
        if (!craftOk(craft) || phase < 0 || phase >= planes.get(state.craft.get(craft).plane).turn
            || state.craft.get(craft).phase == phase) {
            return not(3);
        }
        act();
        state.craft.get(craft).phase = phase;
        return true;
    }

    boolean reach(int craft, int reach) {
        if (!craftOk(craft) || reach < 0 || reach > 12 || state.craft.get(craft).reach == reach) {
            return not(3);
        }
        act();
        state.craft.get(craft).reach = reach;
        return true;
    }

    boolean node(int plane, int node) {
        if (!planeOk(plane) || node < 0 || node >= columns || state.nodes.get(plane) == node) {
            return not(3);
        }
        act();
        state.nodes.set(plane, node);
        return true;
    }

    int spread(int plane, int phase) {
        if (!planeOk(plane) || phase < 0 || phase >= planes.get(plane).turn || in(state, plane, true).isEmpty()) {
            return no(3);
        }
        act();
        spreadOut(state, plane, phase);
        return in(state, plane, true).size();
    }

    private int draw(int m) {
        seed = (1103515245L * seed + 12345L) % (1L << 31);
        return (int) (seed / 64 % m);
    }

    int chance(int n) {
        if (n < 1 || n > 40 || state.craft.isEmpty()) {
            return no(2);
        }
        act();
        for (int i = 0; i < n; i++) {
            Craft c = state.craft.get(draw(state.craft.size()));
            int kind = draw(4);
            if (kind == 0) {
                c.up = !c.up;
            } else if (kind == 1) {
                c.phase = draw(planes.get(c.plane).turn);
            } else if (kind == 2) {
                c.reach = draw(7);
            } else {
                state.nodes.set(c.plane, draw(columns));
            }
        }
        return has(5);
    }

    boolean undo() {
        if (past.isEmpty()) {
            return not(4);
        }
        state = past.remove(past.size() - 1);
        return true;
    }

    boolean seed(int seed) {
        if (seed < 0) {
            return not(5);
        }
        this.seed = seed;
        return true;
    }

    // ---- images

    private int[] imageOf(State s) {
        List<Integer> out = new ArrayList<>(s.nodes);
        for (Craft c : s.craft) {
            out.add(c.up ? 1 : 0);
            out.add(c.phase);
            out.add(c.reach);
        }
        int c = 167;
        for (int b : out) {
            c = (3 * c + b) % 251;
        }
        out.add(c);
        return out.stream().mapToInt(Integer::intValue).toArray();
    }

    int image() {
        octets = imageOf(state);
        return octets.length;
    }

    int octet(int k) {
        return k >= 0 && k < octets.length ? octets[k] : NONE;
    }

    boolean on() {
        List<Integer> bytes = takeTape();
        if (!desk || bytes.size() != planes.size() + 3 * state.craft.size() + 1) {
            return not(5);
        }
        State s = state.copy();
        int k = 0;
        for (int p = 0; p < planes.size(); p++) {
            s.nodes.set(p, bytes.get(k++));
            if (s.nodes.get(p) >= columns) {
                return not(5);
            }
        }
        for (Craft c : s.craft) {
            int up = bytes.get(k++);
            c.up = up == 1;
            c.phase = bytes.get(k++);
            c.reach = bytes.get(k++);
            if (up > 1 || c.phase >= planes.get(c.plane).turn || c.reach > 12) {
                return not(5);
            }
        }
        int[] due = imageOf(s);
        if (due[due.length - 1] != bytes.get(k)) {
            return not(5);
        }
        state = s;
        past.clear();
        return true;
    }

    int status(int what) {
        return what >= 0 && what <= 5 ? refusals[what] : NONE;
    }
}
