/** Promises 44 to 56, sentence by sentence: acts, what is undone, the seed, images, refusals. */
final class ActEdges extends Checks {
    private static final String BARE = "grid 4 by 3 day 2;";

    private ActEdges() {
    }

    private static OrbitDesk without(String text, int... lost) {
        OrbitDesk x = desk(text);
        for (int craft : lost) {
            x.lose(craft);
        }
        return x;
    }

    @Says("A CRAFT is lost: true;")
    static void promise44_lost() {
        OrbitDesk x = desk(RING);
        due("lose(1)", x.lose(1), true);
        due("it is lost", x.craft(1, 3), 0);
        due("the other is not", x.craft(0, 3), 1);
        due("an act", x.has(10), 1);
        due("lose(0)", x.lose(0), true);
        due("all are lost", x.has(5), 0);
        due("nothing is seen", x.covered(0), 0);
    }

    @Says("false, refused (2), when it is,")
    static void promise44_itIsLost() {
        refuses("lose(0)", 2, () -> without(RING, 0), x -> x.lose(0));
    }

    @Says("or there is none such.")
    static void promise44_noneSuch() {
        for (int craft : outside(2)) {
            refuses("lose(" + craft + ")", 2, () -> desk(RING), x -> x.lose(craft));
        }
        refuses("lose(0) without craft", 2, () -> desk(BARE), x -> x.lose(0));
        refuses("lose(0) without a desk", 2, OrbitDesk::new, x -> x.lose(0));
    }

    @Says("A CRAFT is UP again: true;")
    static void promise45_upAgain() {
        OrbitDesk x = without(RING, 0, 1);
        due("find(1)", x.find(1), true);
        due("it is up", x.craft(1, 3), 1);
        due("the other is not", x.craft(0, 3), 0);
        due("an act", x.has(10), 3);
        due("it sees", x.sees(1, 0, 2, 1), 1);
    }

    @Says("false, refused (2), when it is,")
    static void promise45_itIsUp() {
        refuses("find(0)", 2, () -> without(RING, 1), x -> x.find(0));
    }

    @Says("or there is none such.")
    static void promise45_noneSuch() {
        for (int craft : outside(2)) {
            refuses("find(" + craft + ")", 2, () -> without(RING, 0), x -> x.find(craft));
        }
        refuses("find(0) without a desk", 2, OrbitDesk::new, x -> x.find(0));
    }

    @Says("Another phase (0 .. turn less 1) of a CRAFT: true;")
    static void promise46_anotherPhase() {
        OrbitDesk x = desk(BOW);
        due("phase(0, 7)", x.phase(0, 7), true);
        due("craft(0, 1)", x.craft(0, 1), 7);
        due("the other's stays", x.craft(1, 1), 4);
        due("phase(0, 0)", x.phase(0, 0), true);
        due("two acts", x.has(10), 2);
        x.lose(1);
        due("of a lost one", x.phase(1, 0), true);
    }

    @Says("false, refused (3), when it has that,")
    static void promise46_itHasThat() {
        refuses("phase(1, 4)", 3, () -> desk(BOW), x -> x.phase(1, 4));
        refuses("phase(0, 0)", 3, () -> desk(BOW), x -> x.phase(0, 0));
    }

    @Says("it can't be,")
    static void promise46_itCannotBe() {
        for (int phase : outside(8)) {
            refuses("phase(0, " + phase + ")", 3, () -> desk(BOW), x -> x.phase(0, phase));
        }
        String two = ALONE + "plane q node 0 tilt 0 turn 4;craft b in q phase 0 reach 0;";
        refuses("phase(0, 2) of turn 2", 3, () -> desk(two), x -> x.phase(0, 2));
        due("phase(1, 2) of turn 4", desk(two).phase(1, 2), true);
    }

    @Says("or there is none such.")
    static void promise46_noneSuch() {
        for (int craft : outside(2)) {
            refuses("phase(" + craft + ", 1)", 3, () -> desk(BOW), x -> x.phase(craft, 1));
        }
        refuses("phase(0, 1) without a desk", 3, OrbitDesk::new, x -> x.phase(0, 1));
    }

    @Says("Another reach (0 .. 12) of a CRAFT: true;")
    static void promise47_anotherReach() {
        OrbitDesk x = desk(BOW);
        due("reach(0, 12)", x.reach(0, 12), true);
        due("craft(0, 2)", x.craft(0, 2), 12);
        due("it sees", x.sees(0, 0, 4, 0), 1);
        due("reach(0, 0)", x.reach(0, 0), true);
        due("it sees no more", x.sees(0, 0, 1, 2), 0);
        due("two acts", x.has(10), 2);
        x.lose(1);
        due("of a lost one", x.reach(1, 1), true);
    }

    @Says("false, refused (3), when it has that,")
    static void promise47_itHasThat() {
        refuses("reach(0, 1)", 3, () -> desk(BOW), x -> x.reach(0, 1));
        refuses("reach(1, 0)", 3, () -> desk(BOW), x -> x.reach(1, 0));
    }

    @Says("it can't be,")
    static void promise47_itCannotBe() {
        for (int reach : outside(13)) {
            refuses("reach(0, " + reach + ")", 3, () -> desk(BOW), x -> x.reach(0, reach));
        }
    }

    @Says("or there is none such.")
    static void promise47_noneSuch() {
        for (int craft : outside(2)) {
            refuses("reach(" + craft + ", 2)", 3, () -> desk(BOW), x -> x.reach(craft, 2));
        }
        refuses("reach(0, 2) without a desk", 3, OrbitDesk::new, x -> x.reach(0, 2));
    }

    @Says("Another node (a COLUMN) of a PLANE: true;")
    static void promise48_anotherNode() {
        OrbitDesk x = desk(BOW);
        due("node(0, 7)", x.node(0, 7), true);
        due("plane(0, 0)", x.plane(0, 0), 7);
        due("a's column", x.spot(0, 0, 0), 7);
        due("b's column", x.spot(1, 0, 0), 3);
        due("node(0, 0)", x.node(0, 0), true);
        due("two acts", x.has(10), 2);
        due("of a plane without craft", desk(BARE + "plane p node 0 tilt 0 turn 2;").node(0, 3), true);
    }

    @Says("false, refused (3), when it has that,")
    static void promise48_itHasThat() {
        refuses("node(0, 0)", 3, () -> desk(BOW), x -> x.node(0, 0));
    }

    @Says("it can't be,")
    static void promise48_itCannotBe() {
        for (int node : outside(8)) {
            refuses("node(0, " + node + ")", 3, () -> desk(BOW), x -> x.node(0, node));
        }
    }

    @Says("or there is none such.")
    static void promise48_noneSuch() {
        for (int plane : outside(1)) {
            refuses("node(" + plane + ", 1)", 3, () -> desk(BOW), x -> x.node(plane, 1));
        }
        refuses("node(0, 1) without a desk", 3, OrbitDesk::new, x -> x.node(0, 1));
    }

    @Says("A PLANE is SPREAD from a phase (0 .. turn less 1): how many of its CRAFT are UP;")
    static void promise49_spread() {
        OrbitDesk x = desk(BOW);
        due("spread(0, 7)", x.spread(0, 7), 2);
        due("a", x.craft(0, 1), 7);
        due("b", x.craft(1, 1), 3);
        due("an act", x.has(10), 1);
        x.lose(0);
        due("spread(0, 0)", x.spread(0, 0), 1);
        due("a, lost", x.craft(0, 1), 7);
        due("b", x.craft(1, 1), 0);
        due("undo()", x.undo(), true);
        due("b", x.craft(1, 1), 3);
    }

    @Says("NONE, refused (3), when none is,")
    static void promise49_noneIsUp() {
        refuses("spread(0, 0)", 3, () -> without(BOW, 0, 1), x -> x.spread(0, 0) != NONE);
        refuses("spread of a plane without craft", 3, () -> desk(RING + "plane q node 0 tilt 0 turn 2;"),
            x -> x.spread(1, 0) != NONE);
    }

    @Says("it can't be,")
    static void promise49_itCannotBe() {
        for (int phase : outside(8)) {
            refuses("spread(0, " + phase + ")", 3, () -> desk(BOW), x -> x.spread(0, phase) != NONE);
        }
    }

    @Says("or there is none such.")
    static void promise49_noneSuch() {
        for (int plane : outside(1)) {
            refuses("spread(" + plane + ", 0)", 3, () -> desk(BOW), x -> x.spread(plane, 0) != NONE);
        }
        refuses("spread(0, 0) without a desk", 3, OrbitDesk::new, x -> x.spread(0, 0) != NONE);
    }

    @Says("n times by the seed (1 .. 40), one ACT: how many CRAFT are UP then;")
    static void promise50_oneAct() {
        OrbitDesk x = desk(RING);
        due("chance(1)", x.chance(1), 2);
        due("one act", x.has(10), 1);
        due("chance(1): a is lost", x.chance(1), 1);
        String stood = state(x);
        int up = x.chance(40);
        due("chance(40)", up, x.has(5));
        due("one act", x.has(10), 3);
        int seed = x.has(11);
        due("undone at once", x.undo(), true);
        due("the seed stays", x.has(11), seed);
        x.seed(2035015474);
        due("all is as it was", state(x).equals(stood), true);
    }

    @Says("NONE, refused (2), when n can't be,")
    static void promise50_nCannotBe() {
        for (int n : new int[] {0, 41, -1, MIN, MAX, 42, 296}) {
            refuses("chance(" + n + ")", 2, () -> desk(RING), x -> x.chance(n) != NONE);
        }
    }

    @Says("or there are no CRAFT.")
    static void promise50_noCraft() {
        refuses("chance(1)", 2, () -> desk(BARE + "plane p node 0 tilt 0 turn 2;"), x -> x.chance(1) != NONE);
        refuses("chance(1) without a desk", 2, OrbitDesk::new, x -> x.chance(1) != NONE);
        due("all lost", without(RING, 0, 1).chance(1), 0);
    }

    @Says("The latest ACT is undone (the seed, what is NOTED stay): true;")
    static void promise51_undo() {
        OrbitDesk x = desk(BOW);
        String[] stood = new String[7];
        stood[0] = state(x);
        x.lose(0);
        stood[1] = state(x);
        x.find(0);
        stood[2] = state(x);
        x.phase(0, 3);
        stood[3] = state(x);
        x.reach(1, 4);
        stood[4] = state(x);
        x.node(0, 5);
        stood[5] = state(x);
        x.spread(0, 1);
        for (int i = 5; i >= 0; i--) {
            due("undo()", x.undo(), true);
            due("as ahead of act " + i, state(x).equals(stood[i]), true);
        }
        OrbitDesk y = desk(RING);
        y.chance(5);
        y.seed(7);
        feed(y, 0, 0, 0, 1);
        y.note();
        y.undo();
        due("the seed stays", y.has(11), 7);
        due("what is noted stays", y.has(9), 1);
    }

    @Says("false, refused (4), when none can be.")
    static void promise51_noneCanBe() {
        refuses("undo() of nothing", 4, () -> desk(RING), OrbitDesk::undo);
        refuses("undo() without a desk", 4, OrbitDesk::new, OrbitDesk::undo);
        refuses("undo() of what is undone", 4, () -> {
            OrbitDesk x = without(RING, 0);
            x.undo();
            return x;
        }, OrbitDesk::undo);
        refuses("undo() behind 20", 4, () -> {
            OrbitDesk x = desk(RING);
            for (int i = 0; i < 21; i++) {
                x.node(0, 1 + i % 2);
            }
            for (int i = 0; i < 20; i++) {
                due("undo " + i, x.undo(), true);
            }
            return x;
        }, OrbitDesk::undo);
        refuses("undo() of what was refused", 4, () -> {
            OrbitDesk x = desk(RING);
            x.find(0);
            x.phase(0, 0);
            x.spread(0, 2);
            x.chance(0);
            return x;
        }, OrbitDesk::undo);
    }

    @Says("The seed: true;")
    static void promise52_theSeed() {
        OrbitDesk x = new OrbitDesk();
        for (int seed : new int[] {0, 1, MAX, 77}) {
            due("seed(" + seed + ")", x.seed(seed), true);
            due("has(11)", x.has(11), seed);
        }
        due("the same again", x.seed(77), true);
        OrbitDesk y = desk(RING);
        y.seed(5);
        due("no act", y.has(10), 0);
    }

    @Says("false, refused (5), when it is below 0.")
    static void promise52_belowZero() {
        refuses("seed(-1)", 5, () -> desk(RING), x -> x.seed(-1));
        refuses("seed(MIN)", 5, OrbitDesk::new, x -> x.seed(MIN));
    }

    @Says("AN IMAGE is written: how many bytes")
    static void promise53_howManyBytes() {
        due("the ring", desk(RING).image(), 1 + 6 + 1);
        due("a plane alone", desk(BARE + "plane p node 0 tilt 0 turn 2;").image(), 2);
        due("a grid alone", desk(BARE).image(), 1);
        StringBuilder full = new StringBuilder("grid 4 by 3 day 2;");
        for (int i = 0; i < 4; i++) {
            full.append("plane p").append((char) ('a' + i)).append(" node 0 tilt 0 turn 2;");
        }
        for (int i = 0; i < 8; i++) {
            full.append("craft c").append((char) ('a' + i)).append(" in pa phase 0 reach 0;");
        }
        due("all planes and craft", desk(full.toString()).image(), 4 + 24 + 1);
    }

    @Says("(1 without a desk).")
    static void promise53_withoutADesk() {
        OrbitDesk x = new OrbitDesk();
        due("image()", x.image(), 1);
        due("octet(0)", x.octet(0), 167);
        due("octet(1)", x.octet(1), NONE);
    }

    @Says("Byte k of the latest image();")
    static void promise54_ofTheLatestImage() {
        OrbitDesk x = desk(RING);
        x.image();
        x.lose(0);
        x.node(0, 3);
        due("node, as it was", x.octet(0), 0);
        due("up, as it was", x.octet(1), 1);
        x.image();
        due("node", x.octet(0), 3);
        due("up", x.octet(1), 0);
        feed(x, BARE);
        x.desk();
        x.image();
        due("a shorter one", x.octet(0), 167);
        due("behind it", x.octet(1), NONE);
    }

    @Says("NONE when there is none such.")
    static void promise54_noneSuch() {
        OrbitDesk x = desk(RING);
        due("ahead of any", x.octet(0), NONE);
        x.image();
        for (int k : outside(8)) {
            due("octet(" + k + ")", x.octet(k), NONE);
        }
        due("without a desk", new OrbitDesk().octet(0), NONE);
    }

    private static OrbitDesk withTape(String text, int... bytes) {
        OrbitDesk x = desk(text);
        x.node(0, 1);
        feed(x, bytes);
        return x;
    }

    @Says("The tape (it goes) is AN IMAGE of this DESK: true, PLANES, CRAFT are as it tells,")
    static void promise55_asItTells() {
        int[] bytes = {3, 0, 1, 12, 1, 0, 0};
        OrbitDesk x = withTape(RING, imageBytes(bytes));
        due("what is seen", x.covered(0), 8);
        due("on()", x.on(), true);
        due("the tape is gone", x.end(1), false);
        x.image();
        for (int k = 0; k < bytes.length; k++) {
            due("octet(" + k + ")", x.octet(k), bytes[k]);
        }
        due("what is seen goes by it", x.covered(0), 1);
        OrbitDesk y = desk(RING);
        y.chance(20);
        int n = y.image();
        int[] own = new int[n];
        for (int k = 0; k < n; k++) {
            own[k] = y.octet(k);
        }
        OrbitDesk z = desk(RING);
        z.seed(y.has(11));
        feed(z, own);
        due("on() of an own image", z.on(), true);
        y.desk();
        due("score", z.score(), y.score());
        z.image();
        for (int k = 0; k < n; k++) {
            due("octet(" + k + ") again", z.octet(k), own[k]);
        }
    }

    @Says("nothing can be undone;")
    static void promise55_nothingCanBeUndone() {
        OrbitDesk x = withTape(RING, imageBytes(3, 0, 1, 12, 1, 0, 0));
        due("an act", x.has(10), 1);
        x.on();
        due("has(10)", x.has(10), 0);
        due("undo()", x.undo(), false);
        OrbitDesk y = desk(RING);
        feed(y, 0, 0, 0, 1);
        y.note();
        y.seed(9);
        feed(y, imageBytes(0, 1, 0, 1, 1, 1, 1));
        due("on()", y.on(), true);
        due("what is noted stays", y.has(9), 1);
        due("the seed stays", y.has(11), 9);
    }

    @Says("false, refused (5), all staying, when it is none,")
    static void promise55_noImage() {
        int[][] wrongs = {{}, {3, 0, 1, 12, 1, 0}, {3, 0, 1, 12, 1, 0, 0, 0}, {4, 0, 1, 12, 1, 0, 0},
            {255, 0, 1, 12, 1, 0, 0}, {3, 2, 1, 12, 1, 0, 0}, {3, 0, 2, 12, 1, 0, 0}, {3, 0, 1, 13, 1, 0, 0},
            {3, 0, 1, 12, 255, 0, 0}, {3, 0, 1, 12, 1, 2, 0}, {3, 0, 1, 12, 1, 0, 13}, {3, 0, 255, 12, 1, 0, 0},
            {3, 0, 1, 255, 1, 0, 0}};
        for (int i = 0; i < wrongs.length; i++) {
            int[] bytes = imageBytes(wrongs[i]);
            refuses("on() of wrong bytes " + i, 5, () -> withTape(RING, bytes), OrbitDesk::on);
        }
        for (int last : new int[] {0, 251, 255}) {
            int[] bytes = imageBytes(3, 0, 1, 12, 1, 0, 0);
            bytes[7] = bytes[7] == last ? last + 1 : last;
            refuses("on() with a last byte " + last, 5, () -> withTape(RING, bytes), OrbitDesk::on);
        }
        refuses("on() of no bytes", 5, () -> desk(RING), OrbitDesk::on);
        OrbitDesk x = withTape(RING, 1, 2, 3);
        x.on();
        due("the tape is gone", x.end(1), false);
    }

    @Says("or without a desk.")
    static void promise55_withoutADesk() {
        refuses("on()", 5, () -> {
            OrbitDesk x = new OrbitDesk();
            feed(x, 167);
            return x;
        }, OrbitDesk::on);
        OrbitDesk y = desk(BARE);
        feed(y, 167);
        due("a grid alone has an image", y.on(), true);
    }

    @Says("How many were refused: 0 feed(), end();")
    static void promise56_ofTheTape() {
        OrbitDesk x = new OrbitDesk();
        x.end(1);
        x.end(-1);
        for (int i = 0; i < 81; i++) {
            x.feed(0, 0, 0, 0, 0);
        }
        counts(x, 3, 0, 0, 0, 0, 0);
    }

    @Says("1 desk();")
    static void promise56_ofDesk() {
        OrbitDesk x = new OrbitDesk();
        x.desk();
        feed(x, "grid 3");
        x.desk();
        feed(x, RING);
        x.desk();
        counts(x, 0, 2, 0, 0, 0, 0);
    }

    @Says("2 lose(), find(), chance();")
    static void promise56_ofLoseFindChance() {
        OrbitDesk x = desk(RING);
        x.lose(0);
        x.lose(0);
        x.find(0);
        x.find(0);
        x.chance(1);
        x.chance(0);
        counts(x, 0, 0, 3, 0, 0, 0);
    }

    @Says("3 phase(), reach(), node(), spread();")
    static void promise56_ofPhaseReachNodeSpread() {
        OrbitDesk x = desk(RING);
        x.phase(0, 0);
        x.reach(0, 1);
        x.node(0, 0);
        x.spread(0, 2);
        x.phase(0, 1);
        x.reach(0, 2);
        x.node(0, 1);
        x.spread(0, 1);
        counts(x, 0, 0, 0, 4, 0, 0);
    }

    @Says("4 undo();")
    static void promise56_ofUndo() {
        OrbitDesk x = desk(RING);
        x.undo();
        x.lose(0);
        x.undo();
        x.undo();
        counts(x, 0, 0, 0, 0, 2, 0);
    }

    @Says("5 seed(), note(), on().")
    static void promise56_ofSeedNoteOn() {
        OrbitDesk x = desk(RING);
        x.seed(-1);
        x.note();
        x.on();
        x.seed(0);
        feed(x, 0, 0, 0, 0);
        x.note();
        feed(x, imageBytes(0, 1, 0, 1, 1, 1, 1));
        x.on();
        counts(x, 0, 0, 0, 0, 0, 3);
    }

    @Says("NONE for others.")
    static void promise56_others() {
        for (int what : outside(6)) {
            due("status(" + what + ")", desk(RING).status(what), NONE);
        }
        OrbitDesk x = desk(RING);
        asks(x);
        counts(x, 0, 0, 0, 0, 0, 0);
    }

    /** Questions that are answered with NONE count nowhere. */
    private static void asks(OrbitDesk x) {
        long sum = x.fault(9) + x.has(99) + x.letter(9, 9, 9) + x.plane(9, 9) + x.craft(9, 9) + x.site(9, 9);
        sum += x.spot(9, 9, 9) + x.sees(9, 9, 9, 9) + x.seen(-1, 9, 9) + x.width(99) + x.passes(9, 9, 9);
        sum += x.pass(9, 9, 9, 9, 9) + x.gaps(9, 9) + x.gap(9, 9, 9, 9) + x.greatest(9, 9) + x.mean(9, 9);
        sum += x.covered(-1) + x.cover(-1) + x.worst(9) + x.soon(-1) + x.next(-1, 9, 9) + x.best(9, 9);
        sum += x.even(9, 9) + x.critical(9) + x.relief(9, 9) + x.bestNode(9, 9) + x.fewest(-1, 9) + x.meets(9, 9);
        sum += x.extreme(true, 9) + x.depth(9, 9, 9) + x.couple(9) + x.carry(-1, 9, 9) + x.holders(-1, 9, 9);
        sum += x.source(-1, 9, 9) + x.suspect(9) + x.tells(9) + x.octet(99) + x.status(99);
        due("38 times NONE", sum, -38);
    }

    private static void counts(OrbitDesk x, int... counts) {
        for (int what = 0; what < 6; what++) {
            due("status(" + what + ")", x.status(what), counts[what]);
        }
    }
}
