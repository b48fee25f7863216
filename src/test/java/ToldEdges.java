/** Promises 1 to 14, sentence by sentence: the tape, the desk, what was told, where craft are and what they see. */
final class ToldEdges extends Checks {
    /** Two planes, three craft (one in q), two sites. */
    private static final String TRIO = "grid 8 by 5 day 8;plane p node 7 tilt 2 turn 8;"
        + "plane qrstuv node 3 tilt 0 turn 4;craft a in p phase 0 reach 1;craft bz in p phase 4 reach 0;"
        + "craft c in qrstuv phase 1 reach 12;site s at 2 4 from 0 to 8;site t at 7 2 from 3 to 6;";
    private static final int[] TICKS_OUT = {-1, 10000, MIN, MAX, 10001, -9999};

    private ToldEdges() {
    }

    private static void feedBlanks(OrbitDesk x, int times) {
        for (int i = 0; i < times; i++) {
            x.feed(0x20202020, 0x20202020, 0x20202020, 0x20202020, 0x20202020);
        }
    }

    @Says("No desk, no craft;")
    static void promise1_noDeskNoCraft() {
        OrbitDesk x = new OrbitDesk();
        for (int what = 0; what <= 10; what++) {
            due("has(" + what + ")", x.has(what), 0);
        }
        due("fault(0)", x.fault(0), 0);
        due("score()", x.score(), NONE);
        due("craft(0, 3)", x.craft(0, 3), NONE);
        due("lose(0)", x.lose(0), false);
        due("the tape is empty", x.end(1), false);
        due("no image", x.octet(0), NONE);
    }

    @Says("the seed is 1.")
    static void promise1_theSeedIsOne() {
        due("has(11)", new OrbitDesk().has(11), 1);
        OrbitDesk x = desk(RING);
        x.chance(1);
        due("drawn from 1 on", x.has(11), 662824084);
    }

    @Says("Twenty bytes come behind those on the tape, of each number the highest first: how many there are;")
    static void promise2_bytesComeHighestFirst() {
        OrbitDesk x = new OrbitDesk();
        // "grid", " 4 b", "y 3 ", "day ", "96 ;"
        due("feed", x.feed(0x67726964, 0x20342062, 0x79203320, 0x64617920, 0x3936203b), 20);
        // "plan", "e p ", "node", " 3 t", "ilt "
        due("feed", x.feed(0x706c616e, 0x65207020, 0x6e6f6465, 0x20332074, 0x696c7420), 40);
        due("feed", x.feed(0x31207475, 0x726e2030, 0x323b2020, 0x20202020, 0x20202020), 60);
        due("desk()", x.desk(), 2);
        due("day", x.has(2), 96);
        due("turn", x.plane(0, 2), 2);
        due("a byte of 255", x.feed(0x202020ff, 0, 0, 0, 0), 20);
        x.desk();
        due("is the fourth", x.fault(1), 3);
        due("numbers below 0", x.feed(-1, MIN, -1, MIN, -1), 20);
    }

    @Says("NONE, refused (0), if there would be more than 1600.")
    static void promise2_moreThan1600AreRefused() {
        OrbitDesk x = new OrbitDesk();
        feedBlanks(x, 79);
        due("feed to 1600", x.feed(0, 0, 0, 0, 0), 1600);
        due("feed to 1620", x.feed(0, 0, 0, 0, 0), NONE);
        due("status(0)", x.status(0), 1);
        due("1600 are there", x.end(1600), true);
        due("1601 are not", x.end(1601), false);
        x.end(1581);
        due("feed to 1601", x.feed(0, 0, 0, 0, 0), NONE);
        x.end(1580);
        due("feed to 1600", x.feed(0, 0, 0, 0, 0), 1600);
        due("status(0)", x.status(0), 3);
        refuses("feed to 1620", 0, () -> {
            OrbitDesk y = desk(RING);
            feedBlanks(y, 80);
            return y;
        }, y -> y.feed(0, 0, 0, 0, 0) != NONE);
    }

    @Says("The tape has its first n bytes alone: true;")
    static void promise3_theFirstBytesAlone() {
        OrbitDesk x = new OrbitDesk();
        due("end(0) of none", x.end(0), true);
        feedBlanks(x, 2);
        due("end(40) of 40", x.end(40), true);
        due("end(7)", x.end(7), true);
        due("end(7) again", x.end(7), true);
        due("feed behind 7", x.feed(0x78202020, 0, 0, 0, 0), 27);
        x.desk();
        due("the x is byte 7", x.fault(1), 7);
        feedBlanks(x, 1);
        due("end(0)", x.end(0), true);
        due("nothing is left", x.feed(0, 0, 0, 0, 0), 20);
    }

    @Says("false, refused (0), if it has not so many,")
    static void promise3_notSoMany() {
        refuses("end(1) of none", 0, OrbitDesk::new, x -> x.end(1));
        refuses("end(MAX) of none", 0, OrbitDesk::new, x -> x.end(MAX));
        refuses("end(21) of 20", 0, () -> {
            OrbitDesk x = desk(RING);
            feedBlanks(x, 1);
            return x;
        }, x -> x.end(21));
        OrbitDesk x = new OrbitDesk();
        feedBlanks(x, 1);
        x.end(21);
        due("the tape stays", x.end(20), true);
        x.end(5);
        due("what was cut is gone", x.end(6), false);
    }

    @Says("or n is below 0.")
    static void promise3_belowZero() {
        refuses("end(-1)", 0, OrbitDesk::new, x -> x.end(-1));
        refuses("end(MIN)", 0, () -> desk(RING), x -> x.end(MIN));
        OrbitDesk x = new OrbitDesk();
        feedBlanks(x, 1);
        x.end(-1);
        due("the tape stays", x.end(20), true);
    }

    @Says("The tape (it goes) is THE DESK: how many STATEMENTS;")
    static void promise4_howManyStatements() {
        OrbitDesk x = new OrbitDesk();
        feed(x, BOW);
        due("desk()", x.desk(), 5);
        due("the tape is gone", x.end(1), false);
        feed(x, "grid 4 by 3 day 2;");
        due("desk()", x.desk(), 1);
        feed(x, "grid 4 by 3 day 1;");
        due("a wrong desk()", x.desk(), NONE);
        due("the tape is gone, too", x.end(1), false);
        due("desk() of nothing", x.desk(), NONE);
    }

    private static OrbitDesk busy(String next) {
        OrbitDesk x = desk(RING);
        x.seed(77);
        x.lose(0);
        x.phase(1, 0);
        feed(x, 0, 0, 0, 1);
        x.note();
        feed(x, next);
        return x;
    }

    @Says("NONE, refused (1), with a FAULT")
    static void promise4_aFaultIsRefused() {
        String[] texts = {"grid", "grid 3", RING + "craft a", RING.replace("in p", "in q"),
            "grid 4 by 3 day 80;plane p node 0 tilt 0 turn 49;",
            ALONE + "plane q node 0 tilt 0 turn 2;plane r node 0 tilt 0 turn 2;plane s node 0 tilt 0 turn 2;plane t"};
        int[] kinds = {1, 2, 3, 3, 6, 5};
        for (int i = 0; i < texts.length; i++) {
            String text = texts[i];
            refuses("desk() by " + text, 1, () -> busy(text), x -> x.desk() != NONE);
            OrbitDesk x = busy(text);
            x.desk();
            due("fault(0) by " + text, x.fault(0), kinds[i]);
        }
    }

    @Says("(all stays;")
    static void promise4_allStaysByAFault() {
        OrbitDesk x = busy("grid 9 by 5 day 7;plane p node 3 tilt 1 turn 5;craft a in p phase 4 reach 3;craft a");
        x.image();
        due("desk()", x.desk(), NONE);
        due("columns", x.has(0), 4);
        due("cycle", x.has(7), 4);
        due("up", x.has(5), 1);
        due("noted", x.has(9), 1);
        due("acts", x.has(10), 2);
        due("the seed", x.has(11), 77);
        due("node", x.plane(0, 0), 0);
        due("turn", x.plane(0, 2), 2);
        due("reach", x.craft(0, 2), 1);
        due("the image", x.octet(1), 0);
        due("undo()", x.undo(), true);
        due("phase", x.craft(1, 1), 1);
    }

    @Says("one without a STATEMENT has FAULT 1 at its length).")
    static void promise4_withoutAStatement() {
        fault("", 1, 0);
        fault(" ", 1, 1);
        fault(" \n\n ", 1, 4);
        OrbitDesk x = new OrbitDesk();
        feedBlanks(x, 80);
        due("1600 blanks", x.desk(), NONE);
        due("fault(0)", x.fault(0), 1);
        due("fault(1)", x.fault(1), 1600);
    }

    @Says("Without one all is as told, nothing is NOTED or can be undone;")
    static void promise4_allIsAsTold() {
        OrbitDesk x = busy(RING);
        due("desk()", x.desk(), 4);
        due("up", x.has(5), 2);
        due("phase", x.craft(1, 1), 1);
        due("nothing is noted", x.has(9), 0);
        due("all are suspects", x.suspect(NONE), 3);
        due("nothing can be undone", x.has(10), 0);
        due("undo()", x.undo(), false);
        feed(x, "grid 9 by 5 day 7;");
        due("desk()", x.desk(), 1);
        due("no planes", x.has(3), 0);
        due("no craft", x.has(4), 0);
        due("none up", x.has(5), 0);
        due("the cycle", x.has(7), 7);
        due("all is unseen", x.worst(0), 7);
    }

    @Says("Without one all is as told,")
    static void promise4_nothingOfTheFormerDeskStays() {
        String[] texts = {TRIO, RING, "grid 9 by 6 day 4;plane p node 8 tilt 3 turn 12;craft a in p phase 1 reach 1;"
            + "site u at 0 0 from 0 to 4;", BOW, "grid 5 by 3 day 2;", SITES};
        for (String former : texts) {
            for (String text : texts) {
                OrbitDesk x = desk(former);
                sights(x);
                tried(x, 0);
                x.lose(0);
                feed(x, text + "craft");
                x.desk();
                feed(x, text);
                x.desk();
                OrbitDesk y = desk(text);
                due("state of " + text + " behind " + former, state(x).equals(state(y)), true);
                due("sights of " + text + " behind " + former, sights(x).equals(sights(y)), true);
            }
        }
    }

    @Says("the seed stays.")
    static void promise4_theSeedStays() {
        OrbitDesk x = busy(BOW);
        x.desk();
        due("has(11)", x.has(11), 77);
    }

    @Says("Of the latest desk(): its FAULT (what 0;")
    static void promise5_ofTheLatestDesk() {
        OrbitDesk x = new OrbitDesk();
        feed(x, "grid 3");
        x.desk();
        due("fault(0)", x.fault(0), 2);
        feed(x, "x");
        due("not of what is fed", x.fault(0), 2);
        x.desk();
        due("fault(0)", x.fault(0), 1);
        x.note();
        x.on();
        due("not of note(), on()", x.fault(0), 1);
        feed(x, RING);
        x.desk();
        due("fault(0)", x.fault(0), 0);
    }

    @Says("0 without, and ahead of any),")
    static void promise5_noFault() {
        due("ahead of any", new OrbitDesk().fault(0), 0);
        due("without", desk(RING).fault(0), 0);
    }

    @Says("its place (1; NONE without).")
    static void promise5_itsPlace() {
        due("ahead of any", new OrbitDesk().fault(1), NONE);
        due("without", desk(RING).fault(1), NONE);
        OrbitDesk x = desk(RING);
        feed(x, "grid 8 by 5 day 97;");
        x.desk();
        due("at 16", x.fault(1), 16);
        x.desk();
        due("at the length, 0", x.fault(1), 0);
        feed(x, RING);
        x.desk();
        due("without, behind a fault", x.fault(1), NONE);
    }

    @Says("NONE for another what.")
    static void promise5_anotherWhat() {
        OrbitDesk x = new OrbitDesk();
        x.desk();
        for (int what : outside(2)) {
            due("fault(" + what + ")", x.fault(what), NONE);
        }
    }

    @Says("How many there are: 0 COLUMNS, 1 ROWS, 2 TICKS of the day, 3 PLANES, 4 CRAFT, 5 of these UP, 6 SITES, "
        + "7 TICKS of the CYCLE, 8 ALL, 9 rows NOTED, 10 ACTS that can be undone, 11 the seed.")
    static void promise6_howManyThereAre() {
        OrbitDesk x = desk(TRIO);
        x.lose(1);
        x.find(1);
        x.lose(2);
        x.seed(9);
        feed(x, 0, 0, 0, 1, 7, 7, 4, 0);
        x.note();
        int[] all = {8, 5, 8, 2, 3, 2, 2, 8, 152, 2, 3, 9};
        for (int what = 0; what < all.length; what++) {
            due("has(" + what + ")", x.has(what), all[what]);
        }
        x.undo();
        due("acts", x.has(10), 2);
        due("up", x.has(5), 3);
    }

    @Says("Without a desk all but the seed are 0.")
    static void promise6_withoutADesk() {
        OrbitDesk x = new OrbitDesk();
        x.seed(5);
        x.desk();
        for (int what = 0; what <= 10; what++) {
            due("has(" + what + ")", x.has(what), 0);
        }
        due("has(11)", x.has(11), 5);
    }

    @Says("NONE for others.")
    static void promise6_others() {
        for (int what : outside(12)) {
            due("has(" + what + ")", desk(RING).has(what), NONE);
            due("has(" + what + ") without a desk", new OrbitDesk().has(what), NONE);
        }
    }

    @Says("Letter k (0 .. 5) of the NAME of a PLANE (kind 0), a CRAFT (1), a SITE (2): 1 .. 26;")
    static void promise7_letters() {
        OrbitDesk x = desk(TRIO);
        int[] name = {17, 18, 19, 20, 21, 22};
        for (int k = 0; k < 6; k++) {
            due("letter(0, 1, " + k + ")", x.letter(0, 1, k), name[k]);
        }
        due("b", x.letter(1, 1, 0), 2);
        due("z", x.letter(1, 1, 1), 26);
        due("a", x.letter(1, 0, 0), 1);
        due("t", x.letter(2, 1, 0), 20);
    }

    @Says("0 behind it;")
    static void promise7_behindIt() {
        OrbitDesk x = desk(TRIO);
        for (int k = 1; k < 6; k++) {
            due("letter(0, 0, " + k + ")", x.letter(0, 0, k), 0);
            due("letter(1, 0, " + k + ")", x.letter(1, 0, k), 0);
            due("letter(2, 0, " + k + ")", x.letter(2, 0, k), 0);
        }
        due("letter(1, 1, 2)", x.letter(1, 1, 2), 0);
    }

    @Says("NONE when there is none such.")
    static void promise7_noneSuch() {
        OrbitDesk x = desk(TRIO);
        for (int k : outside(6)) {
            due("letter(0, 1, " + k + ")", x.letter(0, 1, k), NONE);
        }
        for (int kind : outside(3)) {
            due("letter(" + kind + ", 0, 0)", x.letter(kind, 0, 0), NONE);
        }
        int[] counts = {2, 3, 2};
        for (int kind = 0; kind < 3; kind++) {
            for (int which : outside(counts[kind])) {
                due("letter(" + kind + ", " + which + ", 0)", x.letter(kind, which, 0), NONE);
            }
            due("without a desk", new OrbitDesk().letter(kind, 0, 0), NONE);
        }
    }

    @Says("Of a PLANE: 0 node, 1 tilt, 2 turn, 3 how many CRAFT.")
    static void promise8_ofAPlane() {
        OrbitDesk x = desk(TRIO);
        x.lose(0);
        int[][] due = {{7, 2, 8, 2}, {3, 0, 4, 1}};
        for (int plane = 0; plane < 2; plane++) {
            for (int what = 0; what < 4; what++) {
                due("plane(" + plane + ", " + what + ")", x.plane(plane, what), due[plane][what]);
            }
        }
        due("a plane without craft", desk("grid 4 by 3 day 2;plane p node 0 tilt 0 turn 2;").plane(0, 3), 0);
    }

    @Says("NONE when there is none such,")
    static void promise8_noneSuch() {
        for (int plane : outside(2)) {
            for (int what = 0; what < 4; what++) {
                due("plane(" + plane + ", " + what + ")", desk(TRIO).plane(plane, what), NONE);
            }
        }
        due("without a desk", new OrbitDesk().plane(0, 0), NONE);
    }

    @Says("or for others.")
    static void promise8_others() {
        for (int what : outside(4)) {
            due("plane(0, " + what + ")", desk(TRIO).plane(0, what), NONE);
        }
    }

    @Says("Of a CRAFT: 0 its PLANE, 1 phase, 2 reach, 3 whether it is UP.")
    static void promise9_ofACraft() {
        OrbitDesk x = desk(TRIO);
        x.lose(2);
        int[][] due = {{0, 0, 1, 1}, {0, 4, 0, 1}, {1, 1, 12, 0}};
        for (int craft = 0; craft < 3; craft++) {
            for (int what = 0; what < 4; what++) {
                due("craft(" + craft + ", " + what + ")", x.craft(craft, what), due[craft][what]);
            }
        }
    }

    @Says("NONE when there is none such,")
    static void promise9_noneSuch() {
        for (int craft : outside(3)) {
            for (int what = 0; what < 4; what++) {
                due("craft(" + craft + ", " + what + ")", desk(TRIO).craft(craft, what), NONE);
            }
        }
        due("without a desk", new OrbitDesk().craft(0, 0), NONE);
    }

    @Says("or for others.")
    static void promise9_others() {
        for (int what : outside(4)) {
            due("craft(0, " + what + ")", desk(TRIO).craft(0, what), NONE);
        }
    }

    @Says("Of a SITE: 0 COLUMN, 1 ROW, 2 from, 3 to, 4 how many PASSES it HAS, 5 TICKS of these together.")
    static void promise10_ofASite() {
        OrbitDesk x = desk(TRIO);
        // c sees both at all ticks; a, in column 7, sees (7, 2) at 3 4 5 and 7 0 1; b never sees either.
        int[][] due = {{2, 4, 0, 8, 1, 8}, {7, 2, 3, 6, 1, 3}};
        for (int site = 0; site < 2; site++) {
            for (int what = 0; what < 6; what++) {
                due("site(" + site + ", " + what + ")", x.site(site, what), due[site][what]);
            }
        }
        x.lose(0);
        x.lose(2);
        due("none", x.site(1, 4), 0);
        due("none", x.site(1, 5), 0);
    }

    @Says("NONE when there is none such,")
    static void promise10_noneSuch() {
        for (int site : outside(2)) {
            for (int what = 0; what < 6; what++) {
                due("site(" + site + ", " + what + ")", desk(TRIO).site(site, what), NONE);
            }
        }
        due("without a desk", new OrbitDesk().site(0, 0), NONE);
        due("without sites", desk(RING).site(0, 0), NONE);
    }

    @Says("or for others.")
    static void promise10_others() {
        for (int what : outside(6)) {
            due("site(0, " + what + ")", desk(TRIO).site(0, what), NONE);
        }
    }

    @Says({"Of where a CRAFT is at a TICK (0 .. 9999), lost or not:", "0 the COLUMN, 1 the ROW."})
    static void promise11_lostOrNot() {
        OrbitDesk x = desk(TRIO);
        for (int lost = 0; lost < 2; lost++) {
            due("a's column at 0", x.spot(0, 0, 0), 7);
            due("a's row at 2", x.spot(0, 2, 1), 4);
            due("a's row at 9999, as at 7", x.spot(0, 9999, 1), 1);
            due("a's column at 9999", x.spot(0, 9999, 0), 7);
            x.lose(0);
        }
    }

    @Says("NONE when there is none such,")
    static void promise11_noneSuch() {
        OrbitDesk x = desk(TRIO);
        for (int craft : outside(3)) {
            due("spot(" + craft + ", 0, 0)", x.spot(craft, 0, 0), NONE);
        }
        for (int tick : TICKS_OUT) {
            due("spot(0, " + tick + ", 0)", x.spot(0, tick, 0), NONE);
            due("spot(0, " + tick + ", 1)", x.spot(0, tick, 1), NONE);
        }
        due("without a desk", new OrbitDesk().spot(0, 0, 0), NONE);
    }

    @Says("or for others.")
    static void promise11_others() {
        for (int what : outside(2)) {
            due("spot(0, 0, " + what + ")", desk(TRIO).spot(0, 0, what), NONE);
        }
    }

    @Says("Whether a CRAFT SEES a cell at a TICK (0 .. 9999): 1, 0;")
    static void promise12_oneOrZero() {
        OrbitDesk x = desk(TRIO);
        due("1", x.sees(0, 0, 7, 2), 1);
        due("0", x.sees(0, 0, 5, 2), 0);
        due("1 at 9999", x.sees(0, 9999, 7, 0), 1);
        due("0 at 9999", x.sees(0, 9999, 7, 3), 0);
        x.lose(0);
        due("lost: 0", x.sees(0, 0, 7, 2), 0);
    }

    @Says("NONE when there is none such.")
    static void promise12_noneSuch() {
        OrbitDesk x = desk(TRIO);
        for (int craft : outside(3)) {
            due("sees(" + craft + ", 0, 0, 0)", x.sees(craft, 0, 0, 0), NONE);
        }
        for (int tick : TICKS_OUT) {
            due("sees(2, " + tick + ", 0, 0)", x.sees(2, tick, 0, 0), NONE);
        }
        for (int column : outside(8)) {
            due("sees(2, 0, " + column + ", 0)", x.sees(2, 0, column, 0), NONE);
        }
        for (int row : outside(5)) {
            due("sees(2, 0, 0, " + row + ")", x.sees(2, 0, 0, row), NONE);
        }
        due("without a desk", new OrbitDesk().sees(0, 0, 0, 0), NONE);
    }

    @Says("How many CRAFT SEE a cell at a TICK (0 .. 9999);")
    static void promise13_howMany() {
        OrbitDesk x = desk(TRIO);
        // b, in column 3, is above row 2 at 0; c sees all there.
        due("a and c", x.seen(0, 7, 2), 2);
        due("b and c", x.seen(0, 3, 2), 2);
        due("at 9999, as at 7", x.seen(9999, 7, 0), 2);
        x.lose(2);
        due("a", x.seen(0, 7, 2), 1);
        due("none", x.seen(0, 5, 2), 0);
    }

    @Says("NONE when there is none such.")
    static void promise13_noneSuch() {
        OrbitDesk x = desk(TRIO);
        for (int tick : TICKS_OUT) {
            due("seen(" + tick + ", 0, 0)", x.seen(tick, 0, 0), NONE);
        }
        for (int column : outside(8)) {
            due("seen(0, " + column + ", 0)", x.seen(0, column, 0), NONE);
        }
        for (int row : outside(5)) {
            due("seen(0, 0, " + row + ")", x.seen(0, 0, row), NONE);
        }
        due("without a desk", new OrbitDesk().seen(0, 0, 0), NONE);
    }

    @Says("The WIDTH of a ROW;")
    static void promise14_width() {
        OrbitDesk x = desk("grid 4 by 12 day 2;");
        int[] widths = {7, 8, 9, 10, 11, 12, 12, 11, 10, 9, 8, 7};
        for (int row = 0; row < 12; row++) {
            due("width(" + row + ")", x.width(row), widths[row]);
        }
    }

    @Says("NONE when there is none such.")
    static void promise14_noneSuch() {
        for (int row : outside(5)) {
            due("width(" + row + ")", desk(TRIO).width(row), NONE);
        }
        OrbitDesk x = desk("grid 4 by 12 day 2;");
        feed(x, "grid 4 by 3 day 2;");
        x.desk();
        due("a row of a desk that is gone", x.width(3), NONE);
        due("without a desk", new OrbitDesk().width(0), NONE);
    }
}
