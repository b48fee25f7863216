/** A desk for craft on rings above a grid of cells; ../shared/DOC.md says what each call promises. */
public final class OrbitDesk {
    public static final int NONE = -1;

    private static final int MOST_BYTES = 1600;
    private static final int MOST_PLANES = 4;
    private static final int MOST_CRAFT = 8;
    private static final int MOST_SITES = 6;
    private static final int MOST_COLUMNS = 24;
    private static final int MOST_ROWS = 12;
    private static final int MOST_REACH = 12;
    private static final int MOST_CYCLE = 240;
    private static final int MOST_UNDONE = 20;
    private static final int MOST_NOTED = 16;
    private static final int LAST_TICK = 9999;
    private static final int MOST_CARRIED = 480;
    private static final int MOST_CHANCES = 40;
    private static final int MOST_OCTETS = MOST_PLANES + 3 * MOST_CRAFT + 1;

    private static final int REFUSED_TAPE = 0;
    private static final int REFUSED_DESK = 1;
    private static final int REFUSED_LOSS = 2;
    private static final int REFUSED_CHANGE = 3;
    private static final int REFUSED_UNDO = 4;
    private static final int REFUSED_OTHER = 5;

    private final Tape tape = new Tape();
    private final Plan plan = new Plan();
    private final Plan draft = new Plan();
    private final Fleet fleet = new Fleet();
    private final Fleet told = new Fleet();
    private final Reader reader = new Reader(tape, draft, told);
    private final History history = new History();
    private final Sky sky = new Sky(plan);
    private final Strip strip = new Strip(plan, sky);
    private final Trial trial = new Trial(plan, sky, fleet);
    private final Courier courier = new Courier(plan, sky);
    private final Notes notes = new Notes(plan, sky);
    private final int[] octets = new int[MOST_OCTETS];
    private final int[] refusals = new int[6];
    private int octetCount = 0;
    private int latestFault = 0;
    private int faultPlace = NONE;
    private long drawn = 1;
    private boolean fresh = false;

    public OrbitDesk() {
    }

    // ---- the tape, the desk

    public int feed(int a, int b, int c, int d, int e) {
        if (tape.size() + 20 > MOST_BYTES) {
            return refuse(REFUSED_TAPE);
        }
        tape.add(a);
        tape.add(b);
        tape.add(c);
        tape.add(d);
        tape.add(e);
        return tape.size();
    }

    public boolean end(int n) {
        if (n < 0 || n > tape.size()) {
            return refused(REFUSED_TAPE);
        }
        tape.cutTo(n);
        return true;
    }

    public int desk() {
        boolean good = reader.read();
        tape.cutTo(0);
        latestFault = reader.fault;
        faultPlace = reader.place;
        if (!good) {
            return refuse(REFUSED_DESK);
        }
        plan.take(draft);
        fleet.take(told);
        sky.adopt();
        history.forget();
        notes.forget();
        fresh = false;
        return reader.statements;
    }

    public int fault(int what) {
        switch (what) {
            case 0: return latestFault;
            case 1: return faultPlace;
            default: return NONE;
        }
    }

    public int has(int what) {
        switch (what) {
            case 0: return plan.columns;
            case 1: return plan.rows;
            case 2: return plan.day;
            case 3: return plan.planes;
            case 4: return plan.crafts;
            case 5: return Integer.bitCount(fleet.up);
            case 6: return plan.sites;
            case 7: return plan.cycle;
            case 8: return plan.all;
            case 9: return notes.count;
            case 10: return history.count;
            case 11: return (int) drawn;
            default: return NONE;
        }
    }

    public int letter(int kind, int which, int k) {
        if (k < 0 || k >= Words.MOST_LETTERS) {
            return NONE;
        }
        if (kind == 0 && plan.hasPlane(which)) {
            return Words.letterOf(plan.planeNames[which], k);
        }
        if (kind == 1 && plan.hasCraft(which)) {
            return Words.letterOf(plan.craftNames[which], k);
        }
        if (kind == 2 && plan.hasSite(which)) {
            return Words.letterOf(plan.siteNames[which], k);
        }
        return NONE;
    }

    public int plane(int plane, int what) {
        if (!plan.hasPlane(plane)) {
            return NONE;
        }
        switch (what) {
            case 0: return fleet.nodes[plane];
            case 1: return plan.tilts[plane];
            case 2: return plan.turns[plane];
            case 3: return Integer.bitCount(plan.craftIn(plane));
            default: return NONE;
        }
    }

    public int craft(int craft, int what) {
        if (!plan.hasCraft(craft)) {
            return NONE;
        }
        switch (what) {
            case 0: return plan.homes[craft];
            case 1: return fleet.phases[craft];
            case 2: return fleet.reaches[craft];
            case 3: return fleet.isUp(craft) ? 1 : 0;
            default: return NONE;
        }
    }

    public int site(int site, int what) {
        if (!plan.hasSite(site)) {
            return NONE;
        }
        look();
        switch (what) {
            case 0: return plan.siteColumns[site];
            case 1: return plan.siteRows[site];
            case 2: return plan.siteFroms[site];
            case 3: return plan.siteTos[site];
            case 4: return passesInHours(site, false);
            case 5: return passesInHours(site, true);
            default: return NONE;
        }
    }

    // ---- where they are, what they see

    public int spot(int craft, int tick, int what) {
        if (!plan.hasCraft(craft) || !isTick(tick)) {
            return NONE;
        }
        look();
        switch (what) {
            case 0: return sky.columnOf(craft, inCycle(tick));
            case 1: return sky.rowOf(craft, inCycle(tick));
            default: return NONE;
        }
    }

    public int sees(int craft, int tick, int column, int row) {
        if (!plan.hasCraft(craft) || !isTick(tick) || !plan.hasCell(column, row)) {
            return NONE;
        }
        look();
        return sky.whoSees(1 << craft & fleet.up, inCycle(tick), column, row) != 0 ? 1 : 0;
    }

    public int seen(int tick, int column, int row) {
        if (!isTick(tick) || !plan.hasCell(column, row)) {
            return NONE;
        }
        look();
        return Integer.bitCount(sky.whoSees(fleet.up, inCycle(tick), column, row));
    }

    public int width(int row) {
        return row >= 0 && row < plan.rows ? plan.widths[row] : NONE;
    }

    // ---- passes, gaps

    public int passes(int column, int row, int craft) {
        if (!plan.hasCell(column, row) || (craft != NONE && !plan.hasCraft(craft))) {
            return NONE;
        }
        look();
        strip.lay(fleet.up, column, row);
        return strip.countRuns(passKinds(craft));
    }

    public int pass(int column, int row, int craft, int k, int what) {
        if (!plan.hasCell(column, row) || (craft != NONE && !plan.hasCraft(craft))) {
            return NONE;
        }
        look();
        strip.lay(fleet.up, column, row);
        if (!strip.findRun(passKinds(craft), k)) {
            return NONE;
        }
        switch (what) {
            case 0: return strip.begin;
            case 1: return strip.length;
            case 2: return strip.kind;
            default: return NONE;
        }
    }

    public int gaps(int column, int row) {
        if (!plan.hasCell(column, row)) {
            return NONE;
        }
        look();
        strip.lay(fleet.up, column, row);
        return strip.countRuns(Strip.GAP);
    }

    public int gap(int column, int row, int k, int what) {
        if (!plan.hasCell(column, row)) {
            return NONE;
        }
        look();
        strip.lay(fleet.up, column, row);
        if (!strip.findRun(Strip.GAP, k)) {
            return NONE;
        }
        switch (what) {
            case 0: return strip.begin;
            case 1: return strip.length;
            default: return NONE;
        }
    }

    public int greatest(int column, int row) {
        if (!plan.hasCell(column, row)) {
            return NONE;
        }
        look();
        strip.lay(fleet.up, column, row);
        return strip.longestGap();
    }

    public long mean(int column, int row) {
        if (!plan.hasCell(column, row)) {
            return NONE;
        }
        look();
        strip.lay(fleet.up, column, row);
        int count = strip.countRuns(Strip.GAP);
        return count > 0 ? doubleBits((double) strip.unseenTicks() / (double) count) : NONE;
    }

    // ---- cover

    public int covered(int tick) {
        if (!isTick(tick)) {
            return NONE;
        }
        look();
        return sky.countSeen(inCycle(tick));
    }

    public int cover(int tick) {
        if (!isTick(tick)) {
            return NONE;
        }
        look();
        return floatBits(sky.coverAt(inCycle(tick)));
    }

    public int score() {
        if (!plan.stands()) {
            return NONE;
        }
        look();
        return floatBits(sky.meanCover());
    }

    public int worst(int what) {
        if (!plan.stands() || what < 0 || what > 2) {
            return NONE;
        }
        look();
        int worst = sky.worstGap();
        if (what == 0) {
            return worst;
        }
        int row = sky.firstRowWith(worst);
        return what == 1 ? firstColumnWith(worst, row) : row;
    }

    public int never() {
        if (!plan.stands()) {
            return NONE;
        }
        look();
        return sky.countNever();
    }

    public int soon(int tick) {
        if (!isTick(tick)) {
            return NONE;
        }
        look();
        return sky.ticksUntilAll(inCycle(tick));
    }

    public int next(int tick, int column, int row) {
        if (!isTick(tick) || !plan.hasCell(column, row)) {
            return NONE;
        }
        look();
        strip.lay(fleet.up, column, row);
        return strip.ticksUntilSeen(inCycle(tick));
    }

    // ---- tried

    public int best(int craft, int what) {
        if (!plan.hasCraft(craft) || what < 0 || what > 1) {
            return NONE;
        }
        look();
        trial.tryPhases(craft);
        fresh = false;
        return what == 0 ? trial.choice : floatBits(trial.score);
    }

    public int even(int plane, int what) {
        if (!plan.hasPlane(plane) || what < 0 || what > 1) {
            return NONE;
        }
        look();
        trial.trySpreads(plane);
        fresh = false;
        return what == 0 ? trial.choice : trial.worst;
    }

    public int critical(int what) {
        if (fleet.up == 0 || what < 0 || what > 2) {
            return NONE;
        }
        look();
        trial.tryLosses();
        fresh = false;
        switch (what) {
            case 0: return trial.choice;
            case 1: return trial.worst;
            default: return floatBits(trial.score);
        }
    }

    public int relief(int craft, int what) {
        if (!plan.hasCraft(craft) || fleet.isUp(craft) || what < 0 || what > 1) {
            return NONE;
        }
        look();
        trial.tryReliefs(craft);
        fresh = false;
        return what == 0 ? trial.choice : trial.worst;
    }

    public int bestNode(int plane, int what) {
        if (!plan.hasPlane(plane) || what < 0 || what > 1) {
            return NONE;
        }
        look();
        trial.tryNodes(plane);
        fresh = false;
        return what == 0 ? trial.choice : floatBits(trial.score);
    }

    public int fewest(int gap, int what) {
        if (!plan.stands() || gap < 0 || what < 0 || what > 1) {
            return NONE;
        }
        look();
        trial.tryFewest(gap);
        fresh = false;
        return what == 0 || trial.choice == NONE ? trial.choice : Integer.bitCount(trial.choice);
    }

    public int meets(int one, int other) {
        if (one == other || !plan.hasCraft(one) || !plan.hasCraft(other)) {
            return NONE;
        }
        look();
        return sky.countMeetings(one, other);
    }

    public int extreme(boolean most, int what) {
        if (!plan.stands() || what < 0 || what > 1) {
            return NONE;
        }
        look();
        int tick = sky.extremeTick(most);
        return what == 0 ? tick : sky.countSeen(tick);
    }

    public int depth(int column, int row, int what) {
        if (!plan.hasCell(column, row)) {
            return NONE;
        }
        look();
        strip.lay(fleet.up, column, row);
        int deepest = strip.deepestTick();
        switch (what) {
            case 0: return strip.depthAt(deepest);
            case 1: return deepest;
            case 2: return strip.countDouble();
            default: return NONE;
        }
    }

    public int couple(int what) {
        if (Integer.bitCount(fleet.up) < 2 || what < 0 || what > 2) {
            return NONE;
        }
        look();
        trial.tryCouples();
        fresh = false;
        switch (what) {
            case 0: return trial.choice;
            case 1: return trial.other;
            default: return trial.worst;
        }
    }

    // ---- what is carried

    public int carry(int tick, int from, int to) {
        if (!isTick(tick) || !plan.hasSite(from) || !plan.hasSite(to)) {
            return NONE;
        }
        look();
        courier.start(from);
        for (int n = 0; n <= 2 * plan.cycle; n++) {
            if (courier.hasReached(to)) {
                return n;
            }
            courier.step(fleet.up, inCycle(tick + n));
        }
        return NONE;
    }

    public int holders(int tick, int from, int n) {
        if (!isTick(tick) || !plan.hasSite(from) || n < 0 || n > MOST_CARRIED) {
            return NONE;
        }
        look();
        return sitesReached(tick, from, n);
    }

    public int source(int tick, int n, int what) {
        if (!isTick(tick) || plan.sites == 0 || n < 0 || n > MOST_CARRIED || what < 0 || what > 1) {
            return NONE;
        }
        look();
        int source = NONE;
        int most = 0;
        for (int site = 0; site < plan.sites; site++) {
            int reached = Integer.bitCount(sitesReached(tick, site, n));
            if (reached > most) {
                most = reached;
                source = site;
            }
        }
        return what == 0 ? source : most;
    }

    // ---- what was noted

    public int note() {
        boolean good = notes.take(tape);
        tape.cutTo(0);
        return good ? notes.count : refuse(REFUSED_OTHER);
    }

    public int suspect(int k) {
        if (!plan.stands()) {
            return NONE;
        }
        look();
        int suspects = notes.suspects(fleet.up);
        return k == NONE ? Integer.bitCount(suspects) : placeOfBit(suspects, k);
    }

    public int tells(int what) {
        if (!plan.stands() || what < 0 || what > 1) {
            return NONE;
        }
        look();
        int suspects = notes.suspects(fleet.up);
        if (suspects == 0) {
            return NONE;
        }
        notes.findTelling(fleet.up, suspects);
        return what == 0 ? notes.tellingTick : notes.mostLeft;
    }

    // ---- acts

    public boolean lose(int craft) {
        if (!plan.hasCraft(craft) || !fleet.isUp(craft)) {
            return refused(REFUSED_LOSS);
        }
        beginAct();
        fleet.turnOver(craft);
        return true;
    }

    public boolean find(int craft) {
        if (!plan.hasCraft(craft) || fleet.isUp(craft)) {
            return refused(REFUSED_LOSS);
        }
        beginAct();
        fleet.turnOver(craft);
        return true;
    }

    public boolean phase(int craft, int phase) {
        if (!plan.hasCraft(craft) || phase < 0 || phase >= plan.turnOf(craft) || fleet.phases[craft] == phase) {
            return refused(REFUSED_CHANGE);
        }
        beginAct();
        fleet.phases[craft] = phase;
        return true;
    }

    public boolean reach(int craft, int reach) {
        if (!plan.hasCraft(craft) || reach < 0 || reach > MOST_REACH || fleet.reaches[craft] == reach) {
            return refused(REFUSED_CHANGE);
        }
        beginAct();
        fleet.reaches[craft] = reach;
        return true;
    }

    public boolean node(int plane, int node) {
        if (!plan.hasPlane(plane) || node < 0 || node >= plan.columns || fleet.nodes[plane] == node) {
            return refused(REFUSED_CHANGE);
        }
        beginAct();
        fleet.nodes[plane] = node;
        return true;
    }

    public int spread(int plane, int phase) {
        if (!plan.hasPlane(plane) || phase < 0 || phase >= plan.turns[plane]) {
            return refuse(REFUSED_CHANGE);
        }
        int mates = plan.craftIn(plane) & fleet.up;
        if (mates == 0) {
            return refuse(REFUSED_CHANGE);
        }
        beginAct();
        fleet.spreadOut(plan, plane, phase);
        return Integer.bitCount(mates);
    }

    public int chance(int n) {
        if (n < 1 || n > MOST_CHANCES || plan.crafts == 0) {
            return refuse(REFUSED_LOSS);
        }
        beginAct();
        for (int i = 0; i < n; i++) {
            changeByChance();
        }
        return Integer.bitCount(fleet.up);
    }

    public boolean undo() {
        if (history.count == 0) {
            return refused(REFUSED_UNDO);
        }
        history.restore(fleet);
        fresh = false;
        return true;
    }

    public boolean seed(int seed) {
        if (seed < 0) {
            return refused(REFUSED_OTHER);
        }
        drawn = seed;
        return true;
    }

    // ---- images, refusals

    public int image() {
        octetCount = fleet.write(plan, octets);
        return octetCount;
    }

    public int octet(int k) {
        return k >= 0 && k < octetCount ? octets[k] : NONE;
    }

    public boolean on() {
        boolean good = plan.stands() && told.readImage(plan, tape);
        tape.cutTo(0);
        if (!good) {
            return refused(REFUSED_OTHER);
        }
        fleet.take(told);
        history.forget();
        fresh = false;
        return true;
    }

    public int status(int what) {
        return what >= 0 && what < refusals.length ? refusals[what] : NONE;
    }

    // ---- what the calls share

    private int refuse(int kind) {
        refusals[kind]++;
        return NONE;
    }

    private boolean refused(int kind) {
        refusals[kind]++;
        return false;
    }

    private boolean isTick(int tick) {
        return plan.stands() && tick >= 0 && tick <= LAST_TICK;
    }

    private int inCycle(int tick) {
        return rest(tick, plan.cycle);
    }

    // Acts and trials leave the sky as it is until an answer needs it: most acts are never looked at.
    private void look() {
        if (!fresh) {
            sky.drawAll(fleet);
            sky.hold(0);
            sky.join(fleet.up);
            fresh = true;
        }
    }

    private void beginAct() {
        history.keep(fleet);
        fresh = false;
    }

    private int passKinds(int craft) {
        return craft == NONE ? (1 << plan.crafts) - 1 : 1 << craft;
    }

    private int passesInHours(int site, boolean inTicks) {
        strip.lay(fleet.up, plan.siteColumns[site], plan.siteRows[site]);
        int sum = 0;
        for (int t = 0; t < plan.cycle; t++) {
            int hour = rest(t, plan.day);
            for (int craft = 0; craft < plan.crafts; craft++) {
                if (hour >= plan.siteFroms[site] && strip.begins(craft, t)) {
                    int length = strip.lengthFrom(craft, t);
                    if (hour + length <= plan.siteTos[site]) {
                        sum += inTicks ? length : 1;
                    }
                }
            }
        }
        return sum;
    }

    private int firstColumnWith(int worst, int row) {
        for (int column = 0; column < plan.columns; column++) {
            strip.lay(fleet.up, column, row);
            if (strip.longestGap() == worst) {
                return column;
            }
        }
        return 0;
    }

    private int sitesReached(int tick, int from, int n) {
        courier.start(from);
        for (int i = 0; i < n; i++) {
            courier.step(fleet.up, inCycle(tick + i));
        }
        return courier.sites;
    }

    private int draw(int most) {
        drawn = (1103515245L * drawn + 12345L) & 0x7fffffffL;
        return rest((int) (drawn >> 6), most);
    }

    private void changeByChance() {
        int craft = draw(plan.crafts);
        switch (draw(4)) {
            case 0:
                fleet.turnOver(craft);
                break;
            case 1:
                fleet.phases[craft] = draw(plan.turnOf(craft));
                break;
            case 2:
                fleet.reaches[craft] = draw(7);
                break;
            default:
                fleet.nodes[plan.homes[craft]] = draw(plan.columns);
                break;
        }
    }

    private static int cut(int number, int divisor) {
        return divisor > 0 ? number / divisor : 0;
    }

    private static int rest(int number, int divisor) {
        if (divisor <= 0) {
            return 0;
        }
        int left = number % divisor;
        return left < 0 ? left + divisor : left;
    }

    private static int placeOfBit(int set, int k) {
        int left = k;
        for (int place = 0; place < 31 && left >= 0; place++) {
            if ((set >> place & 1) != 0) {
                if (left == 0) {
                    return place;
                }
                left--;
            }
        }
        return NONE;
    }

    // The language leaves no call for the bits of a float or a double. Halving and doubling are exact, so that
    // the last step finds the very digits; nothing here is below 0 or so small that it loses digits.
    private static int floatBits(float number) {
        if (!(number > 0)) {
            return 0;
        }
        float digits = number;
        int power = 127;
        for (; digits >= 2 && power < 254; power++) {
            digits = digits / 2;
        }
        for (; digits < 1 && power > 1; power--) {
            digits = digits * 2;
        }
        return power << 23 | (int) (digits * 8388608f) & 0x7fffff;
    }

    private static long doubleBits(double number) {
        if (!(number > 0)) {
            return 0;
        }
        double digits = number;
        long power = 1023;
        for (; digits >= 2 && power < 2046; power++) {
            digits = digits / 2;
        }
        for (; digits < 1 && power > 1; power--) {
            digits = digits * 2;
        }
        return power << 52 | (long) (digits * 4503599627370496.0) & 0xfffffffffffffL;
    }

    /** The bytes that have been fed. */
    private static final class Tape {
        private final int[] bytes = new int[MOST_BYTES];
        private int length = 0;

        int size() {
            return length;
        }

        int byteAt(int k) {
            return k >= 0 && k < length ? bytes[k] : NONE;
        }

        void add(int number) {
            for (int shift = 24; shift >= 0 && length < MOST_BYTES; shift -= 8) {
                bytes[length] = number >>> shift & 255;
                length++;
            }
        }

        void cutTo(int n) {
            if (n >= 0 && n <= length) {
                length = n;
            }
        }
    }

    /** Words as numbers: five bits a letter, the first one highest, so that unlike words are unlike numbers. */
    private static final class Words {
        static final int MOST_LETTERS = 6;
        private static final String OWN = "grid by day plane node tilt turn craft in phase reach site at from to ";

        static int withLetter(int word, int k, int sign) {
            return k < MOST_LETTERS ? word | sign - 'a' + 1 << 25 - 5 * k : word;
        }

        static int letterOf(int word, int k) {
            return word >> 25 - 5 * k & 31;
        }

        static int of(String text) {
            int word = 0;
            for (int k = 0; k < text.length(); k++) {
                word = withLetter(word, k, text.charAt(k));
            }
            return word;
        }

        static boolean isOwn(int word) {
            int own = 0;
            int k = 0;
            for (int i = 0; i < OWN.length(); i++) {
                if (OWN.charAt(i) == ' ') {
                    if (own == word) {
                        return true;
                    }
                    own = 0;
                    k = 0;
                } else {
                    own = withLetter(own, k, OWN.charAt(i));
                    k++;
                }
            }
            return false;
        }
    }

    /** What a text tells and no act changes. */
    private static final class Plan {
        int columns = 0;
        int rows = 0;
        int day = 0;
        int cycle = 0;
        int all = 0;
        int planes = 0;
        int crafts = 0;
        int sites = 0;
        final int[] widths = new int[MOST_ROWS];
        final int[] planeNames = new int[MOST_PLANES];
        final int[] tilts = new int[MOST_PLANES];
        final int[] turns = new int[MOST_PLANES];
        final int[] craftNames = new int[MOST_CRAFT];
        final int[] homes = new int[MOST_CRAFT];
        final int[] siteNames = new int[MOST_SITES];
        final int[] siteColumns = new int[MOST_SITES];
        final int[] siteRows = new int[MOST_SITES];
        final int[] siteFroms = new int[MOST_SITES];
        final int[] siteTos = new int[MOST_SITES];

        void clear() {
            columns = 0;
            rows = 0;
            day = 0;
            cycle = 0;
            all = 0;
            planes = 0;
            crafts = 0;
            sites = 0;
        }

        void take(Plan from) {
            columns = from.columns;
            rows = from.rows;
            day = from.day;
            cycle = from.cycle;
            all = from.all;
            planes = from.planes;
            crafts = from.crafts;
            sites = from.sites;
            System.arraycopy(from.widths, 0, widths, 0, MOST_ROWS);
            System.arraycopy(from.planeNames, 0, planeNames, 0, MOST_PLANES);
            System.arraycopy(from.tilts, 0, tilts, 0, MOST_PLANES);
            System.arraycopy(from.turns, 0, turns, 0, MOST_PLANES);
            System.arraycopy(from.craftNames, 0, craftNames, 0, MOST_CRAFT);
            System.arraycopy(from.homes, 0, homes, 0, MOST_CRAFT);
            System.arraycopy(from.siteNames, 0, siteNames, 0, MOST_SITES);
            System.arraycopy(from.siteColumns, 0, siteColumns, 0, MOST_SITES);
            System.arraycopy(from.siteRows, 0, siteRows, 0, MOST_SITES);
            System.arraycopy(from.siteFroms, 0, siteFroms, 0, MOST_SITES);
            System.arraycopy(from.siteTos, 0, siteTos, 0, MOST_SITES);
        }

        boolean stands() {
            return columns > 0;
        }

        boolean hasPlane(int plane) {
            return plane >= 0 && plane < planes;
        }

        boolean hasCraft(int craft) {
            return craft >= 0 && craft < crafts;
        }

        boolean hasSite(int site) {
            return site >= 0 && site < sites;
        }

        boolean hasCell(int column, int row) {
            return column >= 0 && column < columns && row >= 0 && row < rows;
        }

        boolean hasName(int name) {
            return planeNamed(name) != NONE
                || placeOf(name, craftNames, crafts) != NONE
                || placeOf(name, siteNames, sites) != NONE;
        }

        int planeNamed(int name) {
            return placeOf(name, planeNames, planes);
        }

        private static int placeOf(int name, int[] names, int count) {
            for (int i = 0; i < count && i < names.length; i++) {
                if (names[i] == name) {
                    return i;
                }
            }
            return NONE;
        }

        int turnOf(int craft) {
            return turns[homes[craft]];
        }

        int craftIn(int plane) {
            int set = 0;
            for (int craft = 0; craft < crafts; craft++) {
                if (homes[craft] == plane) {
                    set |= 1 << craft;
                }
            }
            return set;
        }

        void weighCells() {
            all = 0;
            for (int row = 0; row < rows; row++) {
                widths[row] = rows - Math.abs(2 * row - (rows - 1)) / 2;
                all += columns * widths[row];
            }
        }

        boolean findCycle() {
            cycle = day;
            for (int plane = 0; plane < planes && cycle <= MOST_CYCLE; plane++) {
                cycle = leastCommon(cycle, turns[plane]);
            }
            return cycle <= MOST_CYCLE;
        }

        private static int leastCommon(int one, int other) {
            for (int n = 1; n <= other; n++) {
                if (rest(n * one, other) == 0) {
                    return n * one;
                }
            }
            return one;
        }
    }

    /** Reads a desk's text; the first fault along it ends the reading. */
    private static final class Reader {
        int fault = 0;
        int place = NONE;
        int statements = 0;
        private final Tape text;
        private final Plan plan;
        private final Fleet fleet;
        private int at = 0;
        private int start = 0;
        private int word = 0;
        private int letters = 0;
        private int number = 0;
        private boolean touching = false;

        Reader(Tape text, Plan plan, Fleet fleet) {
            this.text = text;
            this.plan = plan;
            this.fleet = fleet;
        }

        boolean read() {
            fault = 0;
            place = NONE;
            statements = 0;
            at = 0;
            touching = false;
            plan.clear();
            fleet.clear();
            if (!readGrid()) {
                return false;
            }
            for (int n = 0; n < MOST_BYTES; n++) {
                skipBlanks();
                if (at >= text.size()) {
                    break;
                }
                if (!takeLetters()) {
                    return false;
                }
                boolean good = word == Words.of("plane") ? readPlane()
                    : word == Words.of("craft") ? readCraft()
                    : word == Words.of("site") ? readSite()
                    : fail(1, start);
                if (!good) {
                    return false;
                }
            }
            plan.weighCells();
            return plan.findCycle() || fail(6, text.size());
        }

        private boolean readGrid() {
            if (!takeWord("grid") || !takeNumber(4, MOST_COLUMNS)) {
                return false;
            }
            plan.columns = number;
            if (!takeWord("by") || !takeNumber(3, MOST_ROWS)) {
                return false;
            }
            plan.rows = number;
            if (!takeWord("day") || !takeNumber(2, 96)) {
                return false;
            }
            plan.day = number;
            return endStatement();
        }

        private boolean readPlane() {
            int plane = plan.planes;
            if (plane >= MOST_PLANES) {
                return fail(5, start);
            }
            if (!takeName() || !isNew()) {
                return false;
            }
            plan.planeNames[plane] = word;
            if (!takeWord("node") || !takeNumber(0, plan.columns - 1)) {
                return false;
            }
            fleet.nodes[plane] = number;
            if (!takeWord("tilt") || !takeNumber(0, plan.rows / 2)) {
                return false;
            }
            plan.tilts[plane] = number;
            if (!takeWord("turn") || !takeNumber(2, 96)) {
                return false;
            }
            plan.turns[plane] = number;
            plan.planes++;
            return endStatement();
        }

        private boolean readCraft() {
            int craft = plan.crafts;
            if (craft >= MOST_CRAFT) {
                return fail(5, start);
            }
            if (!takeName() || !isNew()) {
                return false;
            }
            plan.craftNames[craft] = word;
            if (!takeWord("in") || !takeName() || !findPlane()) {
                return false;
            }
            plan.homes[craft] = number;
            if (!takeWord("phase") || !takeNumber(0, plan.turnOf(craft) - 1)) {
                return false;
            }
            fleet.phases[craft] = number;
            if (!takeWord("reach") || !takeNumber(0, MOST_REACH)) {
                return false;
            }
            fleet.reaches[craft] = number;
            fleet.turnOver(craft);
            plan.crafts++;
            return endStatement();
        }

        private boolean readSite() {
            int site = plan.sites;
            if (site >= MOST_SITES) {
                return fail(5, start);
            }
            if (!takeName() || !isNew()) {
                return false;
            }
            plan.siteNames[site] = word;
            if (!takeWord("at") || !takeNumber(0, plan.columns - 1)) {
                return false;
            }
            plan.siteColumns[site] = number;
            if (!takeNumber(0, plan.rows - 1)) {
                return false;
            }
            plan.siteRows[site] = number;
            if (!takeWord("from") || !takeNumber(0, plan.day - 1)) {
                return false;
            }
            plan.siteFroms[site] = number;
            if (!takeWord("to") || !takeNumber(number + 1, plan.day)) {
                return false;
            }
            plan.siteTos[site] = number;
            plan.sites++;
            return endStatement();
        }

        private boolean endStatement() {
            skipBlanks();
            if (text.byteAt(at) != ';') {
                return fail(1, at);
            }
            at++;
            touching = false;
            statements++;
            return true;
        }

        private boolean takeWord(String asked) {
            if (!takeLetters()) {
                return false;
            }
            return word == Words.of(asked) || fail(1, start);
        }

        private boolean isNew() {
            return !plan.hasName(word) || fail(3, start);
        }

        private boolean findPlane() {
            number = plan.planeNamed(word);
            return number != NONE || fail(3, start);
        }

        private boolean takeName() {
            if (!takeLetters()) {
                return false;
            }
            if (letters > Words.MOST_LETTERS) {
                return fail(1, start + Words.MOST_LETTERS);
            }
            return !Words.isOwn(word) || fail(1, start);
        }

        private boolean takeLetters() {
            skipBlanks();
            if (touching || !isLetter(text.byteAt(at))) {
                return fail(1, at);
            }
            start = at;
            word = 0;
            letters = 0;
            for (; at < text.size() && isLetter(text.byteAt(at)); at++) {
                word = Words.withLetter(word, letters, text.byteAt(at));
                letters++;
            }
            touching = true;
            return true;
        }

        private boolean takeNumber(int least, int most) {
            skipBlanks();
            if (touching || !isDigit(text.byteAt(at))) {
                return fail(1, at);
            }
            start = at;
            number = 0;
            for (; at < start + 2 && isDigit(text.byteAt(at)); at++) {
                number = 10 * number + text.byteAt(at) - '0';
            }
            touching = true;
            if (isDigit(text.byteAt(at))) {
                return fail(1, at);
            }
            return number >= least && number <= most || fail(2, start);
        }

        // Words and numbers side by side need a blank: 'touching' says that none has come since the last one.
        private void skipBlanks() {
            for (; at < text.size() && isBlank(text.byteAt(at)); at++) {
                touching = false;
            }
        }

        private boolean fail(int kind, int where) {
            fault = kind;
            place = where;
            return false;
        }

        private static boolean isBlank(int sign) {
            return sign == 10 || sign == 32;
        }

        private static boolean isLetter(int sign) {
            return sign >= 'a' && sign <= 'z';
        }

        private static boolean isDigit(int sign) {
            return sign >= '0' && sign <= '9';
        }
    }

    /** What acts change: nodes, who is up (a bit for each craft), phases, reaches. */
    private static final class Fleet {
        private static final int CHECK = 167;
        int up = 0;
        final int[] nodes = new int[MOST_PLANES];
        final int[] phases = new int[MOST_CRAFT];
        final int[] reaches = new int[MOST_CRAFT];

        void clear() {
            up = 0;
        }

        void take(Fleet from) {
            up = from.up;
            System.arraycopy(from.nodes, 0, nodes, 0, MOST_PLANES);
            System.arraycopy(from.phases, 0, phases, 0, MOST_CRAFT);
            System.arraycopy(from.reaches, 0, reaches, 0, MOST_CRAFT);
        }

        boolean isUp(int craft) {
            return (up >> craft & 1) != 0;
        }

        void turnOver(int craft) {
            up ^= 1 << craft;
        }

        void spreadOut(Plan plan, int plane, int phase) {
            int mates = plan.craftIn(plane) & up;
            int count = Integer.bitCount(mates);
            int turn = plan.turns[plane];
            int k = 0;
            for (int craft = 0; craft < plan.crafts; craft++) {
                if ((mates >> craft & 1) != 0) {
                    phases[craft] = rest(phase + cut(k * turn, count), turn);
                    k++;
                }
            }
        }

        int write(Plan plan, int[] octets) {
            int n = 0;
            for (int plane = 0; plane < plan.planes; plane++) {
                octets[n] = nodes[plane];
                n++;
            }
            for (int craft = 0; craft < plan.crafts; craft++) {
                octets[n] = isUp(craft) ? 1 : 0;
                octets[n + 1] = phases[craft];
                octets[n + 2] = reaches[craft];
                n += 3;
            }
            int check = CHECK;
            for (int k = 0; k < n; k++) {
                check = checkWith(check, octets[k]);
            }
            octets[n] = check;
            return n + 1;
        }

        boolean readImage(Plan plan, Tape tape) {
            int last = plan.planes + 3 * plan.crafts;
            if (tape.size() != last + 1 || tape.byteAt(last) != checkOf(tape, last)) {
                return false;
            }
            for (int plane = 0; plane < plan.planes; plane++) {
                nodes[plane] = tape.byteAt(plane);
                if (nodes[plane] >= plan.columns) {
                    return false;
                }
            }
            up = 0;
            for (int craft = 0; craft < plan.crafts; craft++) {
                if (!readCraftImage(plan, tape, craft)) {
                    return false;
                }
            }
            return true;
        }

        private boolean readCraftImage(Plan plan, Tape tape, int craft) {
            int place = plan.planes + 3 * craft;
            int flag = tape.byteAt(place);
            up |= flag == 1 ? 1 << craft : 0;
            phases[craft] = tape.byteAt(place + 1);
            reaches[craft] = tape.byteAt(place + 2);
            return flag <= 1 && phases[craft] < plan.turnOf(craft) && reaches[craft] <= MOST_REACH;
        }

        private static int checkOf(Tape tape, int length) {
            int check = CHECK;
            for (int k = 0; k < length; k++) {
                check = checkWith(check, tape.byteAt(k));
            }
            return check;
        }

        private static int checkWith(int check, int octet) {
            return (3 * check + octet) % 251;
        }
    }

    /** The fleets ahead of the latest acts, round a ring of rows that are used again. */
    private static final class History {
        int count = 0;
        private int top = 0;
        private final Fleet[] kept = new Fleet[MOST_UNDONE];

        History() {
            for (int i = 0; i < MOST_UNDONE; i++) {
                kept[i] = new Fleet();
            }
        }

        void forget() {
            count = 0;
        }

        void keep(Fleet fleet) {
            kept[top].take(fleet);
            top = (top + 1) % MOST_UNDONE;
            count = Math.min(count + 1, MOST_UNDONE);
        }

        void restore(Fleet fleet) {
            top = (top + MOST_UNDONE - 1) % MOST_UNDONE;
            fleet.take(kept[top]);
            count--;
        }
    }

    /** Where each craft is and what it sees through the cycle; the columns seen of a row at a tick are bits. */
    private static final class Sky {
        private final Plan plan;
        private int full = 0;
        private int arcsMade = 0;
        private final int[] arcs = new int[(MOST_REACH + 1) * MOST_ROWS * MOST_ROWS];
        private final float[] shares = new float[MOST_ROWS];
        private final int[] drawnNodes = new int[MOST_CRAFT];
        private final int[] drawnPhases = new int[MOST_CRAFT];
        private final int[] drawnReaches = new int[MOST_CRAFT];
        private final int[] columnsAt = new int[MOST_CRAFT * MOST_CYCLE];
        private final int[] rowsAt = new int[MOST_CRAFT * MOST_CYCLE];
        private final int[] views = new int[MOST_CRAFT * MOST_ROWS * MOST_CYCLE];
        private final int[] held = new int[MOST_ROWS * MOST_CYCLE];
        private final int[] shown = new int[MOST_ROWS * MOST_CYCLE];
        private final int[] since = new int[MOST_COLUMNS];

        Sky(Plan plan) {
            this.plan = plan;
        }

        void adopt() {
            full = (1 << plan.columns) - 1;
            arcsMade = 0;
            for (int row = 0; row < plan.rows; row++) {
                shares[row] = plan.all > 0 ? (float) plan.widths[row] / (float) plan.all : 0;
            }
            for (int craft = 0; craft < MOST_CRAFT; craft++) {
                drawnNodes[craft] = NONE;
            }
        }

        // Few of all reaches are ever in use, so each one's arcs are made when it first is.
        private void makeArcs(int reach) {
            if ((arcsMade >> reach & 1) != 0) {
                return;
            }
            arcsMade |= 1 << reach;
            for (int row = 0; row < plan.rows; row++) {
                for (int dy = 0; dy < plan.rows; dy++) {
                    arcs[(reach * MOST_ROWS + row) * MOST_ROWS + dy] = arcOf(reach, row, dy);
                }
            }
        }

        // The columns of a row that are seen from column 0, dy rows away.
        private int arcOf(int reach, int row, int dy) {
            int width = plan.widths[row];
            int high = dy * plan.rows;
            int far = reach * plan.rows;
            int arc = 0;
            for (int column = 0; column < plan.columns; column++) {
                int wide = Math.min(column, plan.columns - column) * width;
                if (wide * wide + high * high <= far * far) {
                    arc |= 1 << column;
                }
            }
            return arc;
        }

        void drawAll(Fleet fleet) {
            for (int craft = 0; craft < plan.crafts; craft++) {
                draw(fleet, craft);
            }
        }

        void draw(Fleet fleet, int craft) {
            int node = fleet.nodes[plan.homes[craft]];
            int phase = fleet.phases[craft];
            int reach = fleet.reaches[craft];
            if (drawnNodes[craft] == node && drawnPhases[craft] == phase && drawnReaches[craft] == reach) {
                return;
            }
            drawnNodes[craft] = node;
            drawnPhases[craft] = phase;
            drawnReaches[craft] = reach;
            makeArcs(reach);
            for (int t = 0; t < plan.cycle; t++) {
                place(craft, t, node, phase);
                paint(craft, t, reach);
            }
        }

        private void place(int craft, int t, int node, int phase) {
            int home = plan.homes[craft];
            int turn = plan.turns[home];
            int tilt = plan.tilts[home];
            int gone = rest(phase + t, turn);
            int v = cut(4 * gone * tilt, turn);
            int above = v <= tilt ? v : v <= 3 * tilt ? 2 * tilt - v : v - 4 * tilt;
            int ahead = cut(plan.columns * gone, turn);
            int behind = cut(plan.columns * rest(t, plan.day), plan.day);
            rowsAt[craft * MOST_CYCLE + t] = Math.min(plan.rows / 2 + above, plan.rows - 1);
            columnsAt[craft * MOST_CYCLE + t] = rest(node + ahead - behind, plan.columns);
        }

        private void paint(int craft, int t, int reach) {
            int column = columnsAt[craft * MOST_CYCLE + t];
            int own = rowsAt[craft * MOST_CYCLE + t];
            for (int row = 0; row < plan.rows; row++) {
                int arc = arcs[(reach * MOST_ROWS + row) * MOST_ROWS + Math.abs(row - own)];
                int turned = arc << column | arc >>> plan.columns - column;
                views[(craft * MOST_ROWS + row) * MOST_CYCLE + t] = turned & full;
            }
        }

        // A trial holds what its fixed craft see, and joins what the moved ones see time and again.
        void hold(int set) {
            for (int row = 0; row < plan.rows; row++) {
                for (int t = 0; t < plan.cycle; t++) {
                    held[row * MOST_CYCLE + t] = 0;
                }
                addViews(held, set, row);
            }
        }

        void join(int set) {
            for (int row = 0; row < plan.rows; row++) {
                joinRow(set, row);
            }
        }

        private void joinRow(int set, int row) {
            System.arraycopy(held, row * MOST_CYCLE, shown, row * MOST_CYCLE, plan.cycle);
            addViews(shown, set, row);
        }

        private void addViews(int[] target, int set, int row) {
            int line = row * MOST_CYCLE;
            for (int craft = 0; craft < plan.crafts; craft++) {
                if ((set >> craft & 1) != 0) {
                    int view = (craft * MOST_ROWS + row) * MOST_CYCLE;
                    for (int t = 0; t < plan.cycle; t++) {
                        target[line + t] |= views[view + t];
                    }
                }
            }
        }

        int columnOf(int craft, int t) {
            return columnsAt[craft * MOST_CYCLE + t];
        }

        int rowOf(int craft, int t) {
            return rowsAt[craft * MOST_CYCLE + t];
        }

        int countMeetings(int one, int other) {
            int count = 0;
            for (int t = 0; t < plan.cycle; t++) {
                if (columnOf(one, t) == columnOf(other, t) && rowOf(one, t) == rowOf(other, t)) {
                    count++;
                }
            }
            return count;
        }

        int whoSees(int set, int t, int column, int row) {
            int who = 0;
            for (int craft = 0; craft < plan.crafts; craft++) {
                int view = views[(craft * MOST_ROWS + row) * MOST_CYCLE + t];
                who |= (view >> column & 1) << craft;
            }
            return who & set;
        }

        int countSeenBy(int set, int t) {
            int count = 0;
            for (int row = 0; row < plan.rows; row++) {
                int columns = 0;
                for (int craft = 0; craft < plan.crafts; craft++) {
                    if ((set >> craft & 1) != 0) {
                        columns |= views[(craft * MOST_ROWS + row) * MOST_CYCLE + t];
                    }
                }
                count += Integer.bitCount(columns);
            }
            return count;
        }

        int countSeen(int t) {
            int count = 0;
            for (int row = 0; row < plan.rows; row++) {
                count += Integer.bitCount(shown[row * MOST_CYCLE + t]);
            }
            return count;
        }

        int extremeTick(boolean most) {
            int best = 0;
            int bestCount = countSeen(0);
            for (int t = 1; t < plan.cycle; t++) {
                int count = countSeen(t);
                if (most ? count > bestCount : count < bestCount) {
                    best = t;
                    bestCount = count;
                }
            }
            return best;
        }

        // All cells of a row weigh the same, so that only how many are seen matters, not which.
        float coverAt(int t) {
            float sum = 0;
            for (int row = 0; row < plan.rows; row++) {
                float share = shares[row];
                for (int n = Integer.bitCount(shown[row * MOST_CYCLE + t]); n > 0; n--) {
                    sum = sum + share;
                }
            }
            return sum;
        }

        float meanCover() {
            if (plan.cycle <= 0) {
                return 0;
            }
            float ticks = (float) plan.cycle;
            float sum = 0;
            for (int t = 0; t < plan.cycle; t++) {
                sum = sum + coverAt(t) / ticks;
            }
            return sum;
        }

        int countNever() {
            int count = 0;
            for (int row = 0; row < plan.rows; row++) {
                int ever = 0;
                for (int t = 0; t < plan.cycle; t++) {
                    ever |= shown[row * MOST_CYCLE + t];
                }
                count += plan.columns - Integer.bitCount(ever);
            }
            return count;
        }

        int ticksUntilAll(int tick) {
            int last = 0;
            for (int row = 0; row < plan.rows; row++) {
                int ever = 0;
                int n = 0;
                for (; n < plan.cycle && ever != full; n++) {
                    ever |= shown[row * MOST_CYCLE + rest(tick + n, plan.cycle)];
                }
                if (ever != full) {
                    return NONE;
                }
                last = Math.max(last, n);
            }
            return last;
        }

        int worstGap() {
            int worst = 0;
            for (int row = 0; row < plan.rows; row++) {
                worst = Math.max(worst, worstOfRow(row));
            }
            return worst;
        }

        int firstRowWith(int worst) {
            for (int row = 0; row < plan.rows; row++) {
                if (worstOfRow(row) == worst) {
                    return row;
                }
            }
            return 0;
        }

        boolean gapsFit(int set, int most) {
            for (int row = 0; row < plan.rows; row++) {
                joinRow(set, row);
                if (worstOfRow(row) > most) {
                    return false;
                }
            }
            return true;
        }

        // Looks only at the columns that turn from seen to unseen or back, tick by tick.
        private int worstOfRow(int row) {
            if (!findLastSights(row)) {
                return plan.cycle;
            }
            int line = row * MOST_CYCLE;
            int before = shown[line + plan.cycle - 1];
            int worst = 0;
            for (int t = 0; t < plan.cycle; t++) {
                int now = shown[line + t];
                int turned = before ^ now;
                for (int n = Integer.bitCount(turned); n > 0; n--) {
                    int column = Integer.numberOfTrailingZeros(turned);
                    turned &= turned - 1;
                    if ((now >> column & 1) == 0) {
                        since[column] = t;
                    } else {
                        worst = Math.max(worst, t - since[column]);
                    }
                }
                before = now;
            }
            return worst;
        }

        // A gap that goes over the cycle's end began below tick 0.
        private boolean findLastSights(int row) {
            int found = 0;
            for (int t = plan.cycle - 1; t >= 0 && found != full; t--) {
                int newly = shown[row * MOST_CYCLE + t] & ~found;
                found |= newly;
                for (int n = Integer.bitCount(newly); n > 0; n--) {
                    since[Integer.numberOfTrailingZeros(newly)] = t + 1 - plan.cycle;
                    newly &= newly - 1;
                }
            }
            return found == full;
        }
    }

    /** Who sees one cell at each tick of the cycle: a bit for each craft, and one more where none does. */
    private static final class Strip {
        private static final int GAP_KIND = MOST_CRAFT;
        static final int GAP = 1 << GAP_KIND;
        int begin = 0;
        int length = 0;
        int kind = 0;
        private int cycle = 0;
        private final Plan plan;
        private final Sky sky;
        private final int[] marks = new int[MOST_CYCLE];

        Strip(Plan plan, Sky sky) {
            this.plan = plan;
            this.sky = sky;
        }

        void lay(int up, int column, int row) {
            cycle = plan.cycle;
            for (int t = 0; t < cycle; t++) {
                int who = sky.whoSees(up, t, column, row);
                marks[t] = who == 0 ? GAP : who;
            }
        }

        private boolean isOf(int kind, int t) {
            return (marks[t] >> kind & 1) != 0;
        }

        boolean begins(int kind, int t) {
            if (!isOf(kind, t)) {
                return false;
            }
            if (!isOf(kind, t == 0 ? cycle - 1 : t - 1)) {
                return true;
            }
            return t == 0 && lengthFrom(kind, 0) == cycle;
        }

        int lengthFrom(int kind, int t) {
            int n = 0;
            while (n < cycle && isOf(kind, rest(t + n, cycle))) {
                n++;
            }
            return n;
        }

        int countRuns(int kinds) {
            int count = 0;
            for (int t = 0; t < cycle; t++) {
                for (int i = 0; i <= GAP_KIND; i++) {
                    if ((kinds >> i & 1) != 0 && begins(i, t)) {
                        count++;
                    }
                }
            }
            return count;
        }

        boolean findRun(int kinds, int k) {
            int left = k;
            for (int t = 0; t < cycle && left >= 0; t++) {
                for (int i = 0; i <= GAP_KIND; i++) {
                    if ((kinds >> i & 1) != 0 && begins(i, t)) {
                        if (left == 0) {
                            begin = t;
                            length = lengthFrom(i, t);
                            kind = i;
                            return true;
                        }
                        left--;
                    }
                }
            }
            return false;
        }

        int longestGap() {
            int longest = 0;
            for (int t = 0; t < cycle; t++) {
                if (begins(GAP_KIND, t)) {
                    longest = Math.max(longest, lengthFrom(GAP_KIND, t));
                }
            }
            return longest;
        }

        int unseenTicks() {
            int count = 0;
            for (int t = 0; t < cycle; t++) {
                count += isOf(GAP_KIND, t) ? 1 : 0;
            }
            return count;
        }

        int ticksUntilSeen(int tick) {
            for (int n = 0; n < cycle; n++) {
                if (!isOf(GAP_KIND, rest(tick + n, cycle))) {
                    return n;
                }
            }
            return NONE;
        }

        int depthAt(int t) {
            return isOf(GAP_KIND, t) ? 0 : Integer.bitCount(marks[t]);
        }

        int deepestTick() {
            int deepest = 0;
            for (int t = 1; t < cycle; t++) {
                if (depthAt(t) > depthAt(deepest)) {
                    deepest = t;
                }
            }
            return deepest;
        }

        int countDouble() {
            int count = 0;
            for (int t = 0; t < cycle; t++) {
                count += depthAt(t) >= 2 ? 1 : 0;
            }
            return count;
        }
    }

    /** What would be: tries go on a fleet of their own, so that nothing of them stays. */
    private static final class Trial {
        int choice = NONE;
        int other = NONE;
        int worst = NONE;
        float score = 0;
        private final Plan plan;
        private final Sky sky;
        private final Fleet live;
        private final Fleet tried = new Fleet();

        Trial(Plan plan, Sky sky, Fleet live) {
            this.plan = plan;
            this.sky = sky;
            this.live = live;
        }

        private void start() {
            choice = NONE;
            other = NONE;
            worst = NONE;
            score = 0;
            tried.take(live);
        }

        void tryPhases(int craft) {
            start();
            int moved = 1 << craft & live.up;
            sky.hold(live.up & ~moved);
            for (int phase = 0; phase < plan.turnOf(craft); phase++) {
                tried.phases[craft] = phase;
                sky.draw(tried, craft);
                sky.join(moved);
                takeHigherScore(phase);
            }
        }

        void tryNodes(int plane) {
            start();
            int moved = plan.craftIn(plane) & live.up;
            sky.hold(live.up & ~moved);
            for (int node = 0; node < plan.columns; node++) {
                tried.nodes[plane] = node;
                sky.drawAll(tried);
                sky.join(moved);
                takeHigherScore(node);
            }
        }

        void trySpreads(int plane) {
            start();
            int moved = plan.craftIn(plane) & live.up;
            if (moved == 0) {
                return;
            }
            sky.hold(live.up & ~moved);
            for (int phase = 0; phase < plan.turns[plane]; phase++) {
                tried.spreadOut(plan, plane, phase);
                sky.drawAll(tried);
                sky.join(moved);
                takeLesserGap(phase);
            }
        }

        void tryReliefs(int lost) {
            start();
            int mates = plan.craftIn(plan.homes[lost]) & live.up;
            sky.hold(0);
            for (int craft = 0; craft < plan.crafts; craft++) {
                if ((mates >> craft & 1) != 0) {
                    tried.phases[craft] = live.phases[lost];
                    sky.draw(tried, craft);
                    sky.join(live.up);
                    takeLesserGap(craft);
                    tried.phases[craft] = live.phases[craft];
                    sky.draw(tried, craft);
                }
            }
        }

        void tryLosses() {
            start();
            sky.hold(0);
            for (int craft = 0; craft < plan.crafts; craft++) {
                if (live.isUp(craft)) {
                    sky.join(live.up & ~(1 << craft));
                    takeGreaterGap(craft);
                }
            }
        }

        void tryCouples() {
            start();
            sky.hold(0);
            for (int one = 0; one < plan.crafts; one++) {
                for (int two = one + 1; two < plan.crafts; two++) {
                    if (live.isUp(one) && live.isUp(two)) {
                        sky.join(live.up & ~(1 << one | 1 << two));
                        int gap = sky.worstGap();
                        if (choice == NONE || gap > worst) {
                            choice = one;
                            other = two;
                            worst = gap;
                        }
                    }
                }
            }
        }

        void tryFewest(int gap) {
            start();
            sky.hold(0);
            if (!sky.gapsFit(live.up, gap)) {
                return;
            }
            for (int count = 0; count <= plan.crafts; count++) {
                for (int set = 0; set <= live.up; set++) {
                    boolean fitting = (set & ~live.up) == 0 && Integer.bitCount(set) == count;
                    if (fitting && sky.gapsFit(set, gap)) {
                        choice = set;
                        return;
                    }
                }
            }
        }

        private void takeHigherScore(int candidate) {
            float mean = sky.meanCover();
            if (choice == NONE || mean > score) {
                choice = candidate;
                score = mean;
            }
        }

        private void takeLesserGap(int candidate) {
            int gap = sky.worstGap();
            if (choice != NONE && gap > worst) {
                return;
            }
            float mean = sky.meanCover();
            if (choice == NONE || gap < worst || mean > score) {
                choice = candidate;
                worst = gap;
                score = mean;
            }
        }

        private void takeGreaterGap(int candidate) {
            int gap = sky.worstGap();
            if (choice != NONE && gap < worst) {
                return;
            }
            float mean = sky.meanCover();
            if (choice == NONE || gap > worst || mean < score) {
                choice = candidate;
                worst = gap;
                score = mean;
            }
        }
    }

    /** Word on its way from site to site; who has it is told in bits. */
    private static final class Courier {
        int sites = 0;
        private int craft = 0;
        private final Plan plan;
        private final Sky sky;

        Courier(Plan plan, Sky sky) {
            this.plan = plan;
            this.sky = sky;
        }

        void start(int site) {
            sites = 1 << site;
            craft = 0;
        }

        boolean hasReached(int site) {
            return (sites >> site & 1) != 0;
        }

        // All craft take it before any site has it from them.
        void step(int up, int t) {
            for (int site = 0; site < plan.sites; site++) {
                if (hasReached(site)) {
                    craft |= sky.whoSees(up, t, plan.siteColumns[site], plan.siteRows[site]);
                }
            }
            for (int site = 0; site < plan.sites; site++) {
                if (sky.whoSees(craft, t, plan.siteColumns[site], plan.siteRows[site]) != 0) {
                    sites |= 1 << site;
                }
            }
        }
    }

    /** What was noted, and who may be lost by it; the number of craft stands for 'none more is lost'. */
    private static final class Notes {
        int count = 0;
        int tellingTick = 0;
        int mostLeft = 0;
        private final int[] ticks = new int[MOST_NOTED];
        private final int[] columns = new int[MOST_NOTED];
        private final int[] rows = new int[MOST_NOTED];
        private final int[] sights = new int[MOST_NOTED];
        private final int[] counts = new int[MOST_CRAFT + 1];
        private final Plan plan;
        private final Sky sky;

        Notes(Plan plan, Sky sky) {
            this.plan = plan;
            this.sky = sky;
        }

        void forget() {
            count = 0;
        }

        boolean take(Tape tape) {
            int size = tape.size();
            if (!plan.stands() || size == 0 || size % 4 != 0 || size > 4 * MOST_NOTED) {
                return false;
            }
            for (int k = 0; k < size; k += 4) {
                boolean cell = plan.hasCell(tape.byteAt(k + 1), tape.byteAt(k + 2));
                if (tape.byteAt(k) >= plan.cycle || !cell || tape.byteAt(k + 3) > 1) {
                    return false;
                }
            }
            count = size / 4;
            for (int i = 0; i < count; i++) {
                ticks[i] = tape.byteAt(4 * i);
                columns[i] = tape.byteAt(4 * i + 1);
                rows[i] = tape.byteAt(4 * i + 2);
                sights[i] = tape.byteAt(4 * i + 3);
            }
            return true;
        }

        int suspects(int up) {
            int suspects = 0;
            for (int craft = 0; craft <= plan.crafts; craft++) {
                boolean open = craft == plan.crafts || (up >> craft & 1) != 0;
                if (open && allSo(up & ~(1 << craft))) {
                    suspects |= 1 << craft;
                }
            }
            return suspects;
        }

        private boolean allSo(int up) {
            for (int i = 0; i < count; i++) {
                int sight = sky.whoSees(up, ticks[i], columns[i], rows[i]) != 0 ? 1 : 0;
                if (sight != sights[i]) {
                    return false;
                }
            }
            return true;
        }

        void findTelling(int up, int suspects) {
            mostLeft = MOST_CRAFT + 2;
            for (int t = 0; t < plan.cycle; t++) {
                for (int craft = 0; craft <= plan.crafts; craft++) {
                    boolean open = (suspects >> craft & 1) != 0;
                    counts[craft] = open ? sky.countSeenBy(up & ~(1 << craft), t) : NONE;
                }
                int left = mostAlike(plan.crafts + 1);
                if (left < mostLeft) {
                    mostLeft = left;
                    tellingTick = t;
                }
            }
        }

        private int mostAlike(int length) {
            int most = 0;
            for (int i = 0; i < length; i++) {
                int alike = 0;
                for (int k = 0; k < length; k++) {
                    alike += counts[i] != NONE && counts[k] == counts[i] ? 1 : 0;
                }
                most = Math.max(most, alike);
            }
            return most;
        }
    }
}
