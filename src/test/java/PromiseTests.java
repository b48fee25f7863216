/** Answers worked out by hand from the document, promise by promise: ordinary inputs, edges, wrong inputs. */
public final class PromiseTests extends Checks {
    /** 512 calls after an object was made: the last ones answer as early ones do, and all refusals were counted. */
    private static void whatItIs() {
        OrbitDesk x = desk(RING);
        int calls = (RING.length() + 19) / 20 + 2;
        int even = x.even(0, 0);
        int alone = x.critical(1);
        calls += 2;
        int rounds = 0;
        for (; calls + 6 <= 510; calls += 6) {
            due("lose(1)", x.lose(1), true);
            due("worst(0) without it", x.worst(0), alone);
            due("even(0, 0) with one craft", x.even(0, 0), 0);
            due("undo()", x.undo(), true);
            due("undo() once more", x.undo(), false);
            due("even(0, 0) with both", x.even(0, 0), even);
            rounds++;
        }
        for (; calls < 511; calls++) {
            due("seed(-1)", x.seed(-1), false);
        }
        due("status(4), the 512th call", x.status(4), rounds);
        OrbitDesk y = new OrbitDesk();
        for (int i = 0; i < 511; i++) {
            due("undo()", y.undo(), false);
        }
        due("status(4), the 512th call", y.status(4), 511);
    }

    private static void promise1() {
        OrbitDesk x = new OrbitDesk();
        for (int what = 0; what <= 10; what++) {
            due("has(" + what + ")", x.has(what), 0);
        }
        due("has(11)", x.has(11), 1);
        due("fault(0)", x.fault(0), 0);
        due("fault(1)", x.fault(1), NONE);
        due("octet(0)", x.octet(0), NONE);
        due("NONE", OrbitDesk.NONE, -1);
        due("score()", x.score(), NONE);
        for (int what = 0; what <= 5; what++) {
            due("status(" + what + ")", x.status(what), 0);
        }
    }

    private static void promise2() {
        OrbitDesk x = new OrbitDesk();
        for (int n = 20; n <= 1600; n += 20) {
            due("feed", x.feed(0x20202020, 0x20202020, 0x20202020, 0x20202020, 0x20202020), n);
        }
        due("feed beyond 1600", x.feed(0, 0, 0, 0, 0), NONE);
        due("status(0)", x.status(0), 1);
        due("end(1581)", x.end(1581), true);
        due("feed to 1601", x.feed(0, 0, 0, 0, 0), NONE);
        due("end(1580)", x.end(1580), true);
        due("feed to 1600", x.feed(0x20202020, 0x20202020, 0x20202020, 0x20202020, 0x2020203b), 1600);
        due("status(0)", x.status(0), 2);
        due("desk()", x.desk(), NONE);
        due("the last byte is the lowest", x.fault(1), 1599);
        due("feed", x.feed(0x67000000, -1, -1, -1, -1), 20);
        due("desk()", x.desk(), NONE);
        due("the first byte is the highest", x.fault(1), 0);
    }

    private static void promise3() {
        OrbitDesk x = new OrbitDesk();
        due("end(0) of nothing", x.end(0), true);
        due("end(1) of nothing", x.end(1), false);
        due("end(-1)", x.end(-1), false);
        x.feed(0x20202020, 0x20202020, 0x20202020, 0x20202020, 0x20202020);
        due("end(21)", x.end(21), false);
        due("end(20)", x.end(20), true);
        due("end(7)", x.end(7), true);
        due("end(8)", x.end(8), false);
        due("end(MIN)", x.end(Integer.MIN_VALUE), false);
        due("status(0)", x.status(0), 5);
        due("feed", x.feed(0, 0, 0, 0, 0), 27);
        due("end(7)", x.end(7), true);
        due("desk()", x.desk(), NONE);
        due("fault(1)", x.fault(1), 7);
        due("the tape is gone", x.end(1), false);
    }

    private static void promise4() {
        good("grid 4 by 3 day 2;", 1);
        good(" \n grid\n4 by 3 day 96 ;\n ", 1);
        good("grid 24 by 12 day 02;plane abcdef node 23 tilt 6 turn 96 ;", 2);
        good("grid 8 by 5 day 8;site s at 7 4 from 7 to 8;plane pl node 7 tilt 2 turn 2;craft pla in pl phase 1 "
            + "reach 12;", 4);
        good(BOW, 5);
        good("grid 4 by 3 day 80;plane p node 0 tilt 0 turn 48;", 2);
        deskFaults();
        deskFaultsOfKinds();
        OrbitDesk x = desk(RING);
        x.seed(77);
        x.lose(0);
        feed(x, 0, 0, 0, 1);
        x.note();
        feed(x, "grid 9 by");
        due("a wrong desk()", x.desk(), NONE);
        due("the tape is gone", x.end(1), false);
        due("all stays: columns", x.has(0), 4);
        due("all stays: up", x.has(5), 1);
        due("all stays: noted", x.has(9), 1);
        due("all stays: acts", x.has(10), 1);
        feed(x, RING);
        due("desk()", x.desk(), 4);
        due("all are up", x.has(5), 2);
        due("nothing is noted", x.has(9), 0);
        due("nothing can be undone", x.has(10), 0);
        due("undo()", x.undo(), false);
        due("the seed stays", x.has(11), 77);
        feed(x, "grid 9 by 5 day 7;");
        due("desk()", x.desk(), 1);
        due("no craft are left", x.craft(0, 0), NONE);
        due("no planes are left", x.plane(0, 0), NONE);
        due("columns", x.has(0), 9);
    }

    private static void deskFaults() {
        fault("", 1, 0);
        fault(" \n ", 1, 3);
        fault(";", 1, 0);
        fault("gri", 1, 0);
        fault("grids 8", 1, 0);
        fault("Grid 8", 1, 0);
        fault("\tgrid 8", 1, 0);
        fault("grid", 1, 4);
        fault("grid ", 1, 5);
        fault("grid8", 1, 4);
        fault("grid 8by", 1, 6);
        fault("grid 8 by5", 1, 9);
        fault("grid x", 1, 5);
        fault("grid 993", 1, 7);
        fault("grid 8 by 5 day 8;;", 1, 18);
        fault("grid 8 by 5 day 8 9", 1, 18);
        fault("grid 8 by 5 day 8;pla", 1, 18);
        fault("grid 8 by 5 day 8;plane", 1, 23);
        fault("grid 8 by 5 day 8;plane Ab", 1, 24);
        fault("grid 8 by 5 day 8;plane a1 node", 1, 25);
        fault("grid 8 by 5 day 8;plane to node", 1, 24);
        fault("grid 8 by 5 day 8;plane a-b node", 1, 25);
        fault("grid 8 by 5 day 8;craft a in day", 1, 29);
        fault("grid 8 by 5 day 8;craft a in abcdefgh", 1, 35);
        fault("grid 8 by 5 day 8;site s at 1 from", 1, 30);
        fault("grid 8 by 5 day 8;site s at 1 2 from 1 to 2", 1, 43);
        fault("grid 8 by 5 day 8;site s at 1 234", 1, 32);
    }

    private static void deskFaultsOfKinds() {
        fault("grid 3 by", 2, 5);
        fault("grid 25 by", 2, 5);
        fault("grid 8 by 2", 2, 10);
        fault("grid 8 by 13", 2, 10);
        fault("grid 8 by 5 day 1", 2, 16);
        fault("grid 8 by 5 day 97", 2, 16);
        fault("grid 8 by 5 day 8;plane p node 8", 2, 31);
        fault("grid 8 by 7 day 8;plane p node 7 tilt 4", 2, 38);
        fault("grid 8 by 5 day 8;plane p node 0 tilt 0 turn 97", 2, 45);
        fault("grid 8 by 5 day 8;site s at 0 0 from 7 to 9", 2, 42);
        fault("grid 8 by 5 day 8;site s at 0 0 from 7 to 7", 2, 42);
        fault("grid 8 by 5 day 8;site s at 0 0 from 1 to 8;site s", 3, 49);
        fault("grid 8 by 5 day 8;site s at 0 0 from 1 to 8;craft a in s", 3, 55);
        String plane = " node 0 tilt 0 turn 2;";
        String four = "grid 8 by 5 day 8;plane a" + plane + "plane b" + plane + "plane c" + plane + "plane d" + plane;
        good(four, 5);
        fault(four + " plane e", 5, four.length() + 1);
        fault(four + "planet e", 1, four.length());
        StringBuilder craft = new StringBuilder(four);
        for (int i = 0; i < 8; i++) {
            craft.append("craft ").append("efghijkl".charAt(i)).append(" in d phase 1 reach 0;");
        }
        good(craft.toString(), 13);
        fault(craft + "craft a", 5, craft.length());
        for (int i = 0; i < 6; i++) {
            craft.append("site ").append("mnopqr".charAt(i)).append(" at 0 0 from 0 to 1;");
        }
        good(craft.toString(), 19);
        fault(craft + "site", 5, craft.length());
        fault("grid 8 by 5 day 96;plane p node 0 tilt 0 turn 95; ", 6, 50);
        fault("grid 8 by 5 day 96;plane p node 0 tilt 0 turn 95; x", 1, 50);
        fault("grid 8 by 5 day 80;plane p node 0 tilt 0 turn 48;plane q node 0 tilt 0 turn 07;", 6, 79);
        fault("grid 8 by 5 day 16;plane p node 0 tilt 0 turn 31;plane q node 0 tilt 0 turn 96;", 6, 79);
    }

    private static void promise5() {
        OrbitDesk x = new OrbitDesk();
        due("fault(2)", x.fault(2), NONE);
        due("fault(-1)", x.fault(-1), NONE);
        feed(x, "grid 3");
        x.desk();
        due("fault(0)", x.fault(0), 2);
        due("fault(1)", x.fault(1), 5);
        feed(x, ALONE);
        x.desk();
        due("fault(0) without", x.fault(0), 0);
        due("fault(1) without", x.fault(1), NONE);
        x.end(9);
        due("fault(0) of desk() alone", x.fault(0), 0);
    }

    private static void promise6() {
        OrbitDesk x = desk(BOW);
        int[] all = {8, 5, 8, 1, 2, 2, 1, 8, 152, 0, 0, 1};
        for (int what = 0; what < all.length; what++) {
            due("has(" + what + ")", x.has(what), all[what]);
        }
        due("has(12)", x.has(12), NONE);
        due("has(-1)", x.has(-1), NONE);
        x.lose(1);
        x.seed(5);
        feed(x, 0, 0, 0, 1, 1, 0, 0, 1);
        x.note();
        due("has(5)", x.has(5), 1);
        due("has(9)", x.has(9), 2);
        due("has(10)", x.has(10), 1);
        due("has(11)", x.has(11), 5);
        OrbitDesk y = desk("grid 5 by 4 day 6;plane p node 0 tilt 2 turn 4;plane q node 0 tilt 0 turn 10;");
        due("the cycle goes by planes without craft, too", y.has(7), 60);
        due("all of even rows", y.has(8), 5 * (3 + 4 + 4 + 3));
    }

    private static void promise7() {
        OrbitDesk x = desk("grid 4 by 3 day 4;plane az node 0 tilt 0 turn 2;craft abcxyz in az phase 0 reach 1;"
            + "site m at 0 0 from 0 to 1;");
        int[] first = {1, 26, 0, 0, 0, 0};
        int[] second = {1, 2, 3, 24, 25, 26};
        for (int k = 0; k < 6; k++) {
            due("letter(0, 0, " + k + ")", x.letter(0, 0, k), first[k]);
            due("letter(1, 0, " + k + ")", x.letter(1, 0, k), second[k]);
        }
        due("letter(2, 0, 0)", x.letter(2, 0, 0), 13);
        due("letter(2, 0, 1)", x.letter(2, 0, 1), 0);
        due("letter(1, 0, 6)", x.letter(1, 0, 6), NONE);
        due("letter(1, 0, -1)", x.letter(1, 0, -1), NONE);
        due("letter(1, 1, 0)", x.letter(1, 1, 0), NONE);
        due("letter(1, -1, 0)", x.letter(1, -1, 0), NONE);
        due("letter(3, 0, 0)", x.letter(3, 0, 0), NONE);
        due("letter(-1, 0, 0)", x.letter(-1, 0, 0), NONE);
    }

    private static void promise8() {
        OrbitDesk x = desk("grid 9 by 6 day 4;plane p node 8 tilt 3 turn 12;plane q node 1 tilt 0 turn 2;"
            + "craft a in q phase 0 reach 1;craft b in q phase 1 reach 1;");
        int[] p = {8, 3, 12, 0};
        int[] q = {1, 0, 2, 2};
        for (int what = 0; what < 4; what++) {
            due("plane(0, " + what + ")", x.plane(0, what), p[what]);
            due("plane(1, " + what + ")", x.plane(1, what), q[what]);
        }
        x.lose(0);
        x.node(1, 4);
        due("lost craft count, too", x.plane(1, 3), 2);
        due("plane(1, 0)", x.plane(1, 0), 4);
        due("plane(1, 4)", x.plane(1, 4), NONE);
        due("plane(1, -1)", x.plane(1, -1), NONE);
        due("plane(2, 0)", x.plane(2, 0), NONE);
        due("plane(-1, 0)", x.plane(-1, 0), NONE);
    }

    private static void promise9() {
        OrbitDesk x = desk("grid 9 by 6 day 4;plane p node 8 tilt 3 turn 12;plane q node 1 tilt 0 turn 2;"
            + "craft a in q phase 1 reach 12;craft b in p phase 11 reach 0;");
        int[] a = {1, 1, 12, 1};
        int[] b = {0, 11, 0, 0};
        x.lose(1);
        for (int what = 0; what < 4; what++) {
            due("craft(0, " + what + ")", x.craft(0, what), a[what]);
            due("craft(1, " + what + ")", x.craft(1, what), b[what]);
        }
        due("craft(0, 4)", x.craft(0, 4), NONE);
        due("craft(0, -1)", x.craft(0, -1), NONE);
        due("craft(2, 0)", x.craft(2, 0), NONE);
        due("craft(-1, 0)", x.craft(-1, 0), NONE);
    }

    private static void promise10() {
        OrbitDesk x = desk("grid 8 by 5 day 8;plane p node 0 tilt 2 turn 8;craft a in p phase 0 reach 1;"
            + "site x at 0 2 from 3 to 6;site y at 0 2 from 4 to 8;site z at 0 2 from 0 to 8;site w at 0 0 from 5 to 8;"
            + "site v at 0 0 from 5 to 7;");
        int[][] due = {{0, 2, 3, 6, 1, 3}, {0, 2, 4, 8, 0, 0}, {0, 2, 0, 8, 1, 3}, {0, 0, 5, 8, 1, 3},
            {0, 0, 5, 7, 0, 0}};
        for (int site = 0; site < due.length; site++) {
            for (int what = 0; what < 6; what++) {
                due("site(" + site + ", " + what + ")", x.site(site, what), due[site][what]);
            }
        }
        due("site(0, 6)", x.site(0, 6), NONE);
        due("site(0, -1)", x.site(0, -1), NONE);
        due("site(5, 0)", x.site(5, 0), NONE);
        due("site(-1, 0)", x.site(-1, 0), NONE);
        x.lose(0);
        due("site(2, 4) with all lost", x.site(2, 4), 0);
        // Turn 8, day 4: two days a cycle. The craft is above (0, 2) at tick 0 alone, which is tick 0 of a day.
        OrbitDesk y = desk("grid 8 by 5 day 4;plane p node 0 tilt 0 turn 8;craft a in p phase 0 reach 0;"
            + "craft b in p phase 0 reach 0;site x at 4 2 from 0 to 1;site y at 7 2 from 1 to 2;");
        due("each craft's pass counts", y.site(0, 4), 2);
        due("ticks", y.site(0, 5), 2);
        due("the tick is told by the day", y.site(1, 4), 2);
    }

    private static void promise11() {
        OrbitDesk x = desk(BOW);
        int[] rows = {2, 3, 4, 3, 2, 1, 0, 1};
        for (int t = 0; t < 24; t++) {
            due("spot(0, " + t + ", 0)", x.spot(0, t, 0), 0);
            due("spot(0, " + t + ", 1)", x.spot(0, t, 1), rows[t % 8]);
            due("spot(1, " + t + ", 0)", x.spot(1, t, 0), 4);
            due("spot(1, " + t + ", 1)", x.spot(1, t, 1), rows[(t + 4) % 8]);
        }
        x.lose(0);
        due("spot(0, 9999, 1) of a lost one", x.spot(0, 9999, 1), 1);
        due("spot(0, 10000, 1)", x.spot(0, 10000, 1), NONE);
        due("spot(0, -1, 1)", x.spot(0, -1, 1), NONE);
        due("spot(0, 0, 2)", x.spot(0, 0, 2), NONE);
        due("spot(0, 0, -1)", x.spot(0, 0, -1), NONE);
        due("spot(2, 0, 0)", x.spot(2, 0, 0), NONE);
        due("spot(-1, 0, 0)", x.spot(-1, 0, 0), NONE);
        // ROWS even: the middle is row 2, tilt 2 would be row 4, which is not there. v = 8 u / 5: 0 1 3 4 6.
        OrbitDesk y = desk("grid 5 by 4 day 3;plane p node 3 tilt 2 turn 5;craft a in p phase 0 reach 1;");
        int[] high = {2, 3, 3, 2, 0};
        int[] columns = {3, 3, 2, 1, 1, 0, 4, 4, 3, 2, 2, 1, 0, 0, 4};
        for (int t = 0; t < 15; t++) {
            due("spot(0, " + t + ", 1)", y.spot(0, t, 1), high[t % 5]);
            due("spot(0, " + t + ", 0)", y.spot(0, t, 0), columns[t]);
        }
        OrbitDesk z = desk("grid 5 by 4 day 8;plane p node 3 tilt 2 turn 8;craft a in p phase 2 reach 1;");
        due("above the last row: in that", z.spot(0, 0, 1), 3);
    }

    private static void promise12() {
        OrbitDesk x = desk(BOW);
        due("above it", x.sees(0, 0, 0, 2), 1);
        due("one column on", x.sees(0, 0, 1, 2), 1);
        due("one column back, round", x.sees(0, 0, 7, 2), 1);
        due("two columns on", x.sees(0, 0, 2, 2), 0);
        due("one row up", x.sees(0, 0, 0, 3), 1);
        due("one row up, one column on", x.sees(0, 0, 1, 3), 0);
        due("reach 0: itself", x.sees(1, 0, 4, 2), 1);
        due("reach 0: beside", x.sees(1, 0, 5, 2), 0);
        x.reach(0, 2);
        due("6 and 0 within 10", x.sees(0, 2, 2, 4), 1);
        due("9 within 10", x.sees(0, 2, 3, 4), 1);
        due("12 beyond 10", x.sees(0, 2, 4, 4), 0);
        due("by the cell's row: 8 and 5 within 10", x.sees(0, 2, 2, 3), 1);
        due("by the cell's row: 12 and 5 beyond 10", x.sees(0, 2, 3, 3), 0);
        due("9999", x.sees(0, 9999, 0, 1), 1);
        x.lose(0);
        due("lost", x.sees(0, 0, 0, 2), 0);
        due("tick -1", x.sees(0, -1, 0, 0), NONE);
        due("tick 10000", x.sees(0, 10000, 0, 0), NONE);
        due("craft 2", x.sees(2, 0, 0, 0), NONE);
        due("craft -1", x.sees(-1, 0, 0, 0), NONE);
        due("column 8", x.sees(0, 0, 8, 0), NONE);
        due("column -1", x.sees(0, 0, -1, 0), NONE);
        due("row 5", x.sees(0, 0, 0, 5), NONE);
        due("row -1", x.sees(0, 0, 0, -1), NONE);
    }

    private static void promise13() {
        OrbitDesk x = desk(RING);
        due("both", x.seen(0, 1, 1), 2);
        due("one", x.seen(0, 0, 1), 1);
        due("none", x.seen(0, 1, 0), 0);
        x.lose(0);
        due("a lost one sees nothing", x.seen(0, 1, 1), 1);
        due("tick 9999", x.seen(9999, 1, 0), 1);
        due("tick 10000", x.seen(10000, 1, 0), NONE);
        due("tick -1", x.seen(-1, 1, 0), NONE);
        due("column 4", x.seen(0, 4, 0), NONE);
        due("row 3", x.seen(0, 0, 3), NONE);
        due("column -1", x.seen(0, -1, 0), NONE);
    }

    private static void promise14() {
        OrbitDesk x = desk("grid 5 by 4 day 3;");
        int[] four = {3, 4, 4, 3};
        OrbitDesk y = desk("grid 5 by 12 day 3;");
        int[] twelve = {7, 8, 9, 10, 11, 12, 12, 11, 10, 9, 8, 7};
        for (int r = 0; r < 12; r++) {
            due("width(" + r + ") of 4", x.width(r), r < 4 ? four[r] : NONE);
            due("width(" + r + ") of 12", y.width(r), twelve[r]);
        }
        due("width(-1)", x.width(-1), NONE);
        due("width(12)", y.width(12), NONE);
    }

    private static void promise15() {
        OrbitDesk x = desk(BOW);
        due("passes(0, 2, 0)", x.passes(0, 2, 0), 2);
        due("passes(0, 2, 1)", x.passes(0, 2, 1), 0);
        due("passes(0, 2, NONE)", x.passes(0, 2, NONE), 2);
        due("passes(0, 0, 0) over the end", x.passes(0, 0, 0), 1);
        due("passes(2, 2, NONE)", x.passes(2, 2, NONE), 0);
        x.reach(0, 12);
        due("at all ticks: one", x.passes(2, 2, 0), 1);
        due("passes(4, 2, NONE)", x.passes(4, 2, NONE), 3);
        x.lose(0);
        due("by a lost one", x.passes(4, 2, 0), 0);
        due("by a lost one, NONE", x.passes(4, 2, NONE), 2);
        due("craft 2", x.passes(4, 2, 2), NONE);
        due("craft -2", x.passes(4, 2, -2), NONE);
        due("column 8", x.passes(8, 2, 0), NONE);
        due("row -1", x.passes(4, -1, 0), NONE);
    }

    private static void promise16() {
        OrbitDesk x = desk(BOW);
        int[][] first = {{3, 3, 0}, {7, 3, 0}};
        passList(x, 0, 2, 0, first);
        passList(x, 0, 2, NONE, first);
        passList(x, 4, 2, 1, new int[][] {{0, 1, 1}, {4, 1, 1}});
        x.reach(0, 12);
        passList(x, 4, 2, NONE, new int[][] {{0, 8, 0}, {0, 1, 1}, {4, 1, 1}});
        passList(x, 4, 2, 0, new int[][] {{0, 8, 0}});
        due("what 3", x.pass(4, 2, 0, 0, 3), NONE);
        due("what -1", x.pass(4, 2, 0, 0, -1), NONE);
        due("craft 2", x.pass(4, 2, 2, 0, 0), NONE);
        due("craft -2", x.pass(4, 2, -2, 0, 0), NONE);
        due("column 8", x.pass(8, 2, 0, 0, 0), NONE);
        due("row 5", x.pass(4, 5, 0, 0, 0), NONE);
    }

    private static void passList(OrbitDesk x, int column, int row, int craft, int[][] list) {
        String of = "pass(" + column + ", " + row + ", " + craft + ", ";
        for (int k = 0; k < list.length; k++) {
            for (int what = 0; what < 3; what++) {
                due(of + k + ", " + what + ")", x.pass(column, row, craft, k, what), list[k][what]);
            }
        }
        due(of + list.length + ", 0)", x.pass(column, row, craft, list.length, 0), NONE);
        due(of + "-1, 0)", x.pass(column, row, craft, -1, 0), NONE);
    }

    private static void promise17() {
        OrbitDesk x = desk(BOW);
        due("gaps(0, 2)", x.gaps(0, 2), 2);
        due("gaps(1, 3)", x.gaps(1, 3), 2);
        due("gaps(0, 0)", x.gaps(0, 0), 1);
        due("gaps(2, 2), never seen", x.gaps(2, 2), 1);
        x.reach(0, 12);
        due("gaps(2, 2), always seen", x.gaps(2, 2), 0);
        due("gaps(8, 0)", x.gaps(8, 0), NONE);
        due("gaps(0, -1)", x.gaps(0, -1), NONE);
    }

    private static void promise18() {
        OrbitDesk x = desk(BOW);
        int[][] due = {{2, 1}, {4, 5}};
        for (int k = 0; k < 2; k++) {
            due("gap(1, 3, " + k + ", 0)", x.gap(1, 3, k, 0), due[k][0]);
            due("gap(1, 3, " + k + ", 1)", x.gap(1, 3, k, 1), due[k][1]);
        }
        due("gap(2, 2, 0, 0), never seen", x.gap(2, 2, 0, 0), 0);
        due("gap(2, 2, 0, 1), never seen", x.gap(2, 2, 0, 1), 8);
        due("gap(1, 3, 2, 0)", x.gap(1, 3, 2, 0), NONE);
        due("gap(1, 3, -1, 0)", x.gap(1, 3, -1, 0), NONE);
        due("gap(1, 3, 0, 2)", x.gap(1, 3, 0, 2), NONE);
        due("gap(1, 3, 0, -1)", x.gap(1, 3, 0, -1), NONE);
        due("gap(8, 3, 0, 0)", x.gap(8, 3, 0, 0), NONE);
        x.reach(0, 12);
        due("gap(1, 3, 0, 0), always seen", x.gap(1, 3, 0, 0), NONE);
    }

    private static void promise19() {
        OrbitDesk x = desk(BOW);
        due("greatest(0, 2)", x.greatest(0, 2), 1);
        due("greatest(1, 3), over the end", x.greatest(1, 3), 5);
        due("greatest(2, 2)", x.greatest(2, 2), 8);
        due("greatest(8, 2)", x.greatest(8, 2), NONE);
        due("greatest(0, 5)", x.greatest(0, 5), NONE);
        x.reach(0, 12);
        due("without any", x.greatest(2, 2), 0);
    }

    private static void promise20() {
        OrbitDesk x = desk(BOW);
        due("mean(1, 3)", x.mean(1, 3), Double.doubleToLongBits(3.0));
        due("mean(2, 2)", x.mean(2, 2), Double.doubleToLongBits(8.0));
        due("mean(8, 2)", x.mean(8, 2), -1);
        due("mean(0, -1)", x.mean(0, -1), -1);
        x.reach(0, 12);
        due("without any", x.mean(2, 2), -1);
        // Reach 0, turn 5, tilt 2 in a grid that turns once in 10: gaps that do not go up in their number.
        OrbitDesk y = desk("grid 4 by 5 day 7;plane p node 0 tilt 1 turn 2;craft a in p phase 0 reach 1;");
        for (int column = 0; column < 4; column++) {
            for (int row = 0; row < 5; row++) {
                double sum = 0;
                int count = y.gaps(column, row);
                for (int k = 0; k < count; k++) {
                    sum += y.gap(column, row, k, 1);
                }
                due("mean(" + column + ", " + row + ")", y.mean(column, row),
                    count == 0 ? -1 : Double.doubleToLongBits(sum / count));
            }
        }
    }

    private static void promise21() {
        OrbitDesk x = desk(BOW);
        int[] cells = {6, 6, 5, 6, 6, 6, 5, 6};
        for (int t = 0; t < 16; t++) {
            due("covered(" + t + ")", x.covered(t), cells[t % 8]);
        }
        due("covered(9998)", x.covered(9998), 5);
        due("covered(10000)", x.covered(10000), NONE);
        due("covered(-1)", x.covered(-1), NONE);
        due("covered(0) without a desk", new OrbitDesk().covered(0), NONE);
    }

    private static void promise22() {
        OrbitDesk x = desk(BOW);
        float three = 3f / 152f;
        float four = 4f / 152f;
        float five = 5f / 152f;
        due("cover(0)", x.cover(0), sum(four, five, five, five, five, four));
        due("cover(2)", x.cover(2), sum(three, four, three, three, three));
        due("cover(10)", x.cover(10), x.cover(2));
        x.lose(0);
        x.lose(1);
        due("cover(0) of nothing", x.cover(0), 0);
        due("cover(10000)", x.cover(10000), NONE);
        due("cover(-1)", x.cover(-1), NONE);
        due("cover(0) without a desk", new OrbitDesk().cover(0), NONE);
        x.find(0);
        x.reach(0, 12);
        float all = 0f;
        for (int row = 0; row < 5; row++) {
            for (int column = 0; column < 8; column++) {
                all += (float) x.width(row) / 152f;
            }
        }
        due("cover(0) of all", x.cover(0), Float.floatToIntBits(all));
    }

    private static void promise23() {
        OrbitDesk x = desk(RING);
        float two = 2f / 28f;
        float three = 3f / 28f;
        float cover = total(two, two, three, three, three, three, two, two);
        due("score()", x.score(), sum(cover / 4f, cover / 4f, cover / 4f, cover / 4f));
        OrbitDesk y = desk(BOW);
        float score = 0f;
        for (int t = 0; t < 8; t++) {
            score += Float.intBitsToFloat(y.cover(t)) / 8f;
        }
        due("score() of the bow", y.score(), Float.floatToIntBits(score));
        y.lose(0);
        y.lose(1);
        due("score() of nothing", y.score(), 0);
        due("score() without a desk", new OrbitDesk().score(), NONE);
    }

    private static void promise24() {
        OrbitDesk x = desk(BOW);
        due("worst(0)", x.worst(0), 8);
        due("worst(1)", x.worst(1), 2);
        due("worst(2)", x.worst(2), 0);
        due("worst(3)", x.worst(3), NONE);
        due("worst(-1)", x.worst(-1), NONE);
        due("worst(0) without a desk", new OrbitDesk().worst(0), NONE);
        x.reach(0, 12);
        due("worst(0) without gaps", x.worst(0), 0);
        due("worst(1) without gaps", x.worst(1), 0);
        due("worst(2) without gaps", x.worst(2), 0);
        OrbitDesk y = desk(ALONE);
        due("worst(0)", y.worst(0), 3);
        due("worst(1)", y.worst(1), 0);
        due("worst(2)", y.worst(2), 0);
        OrbitDesk z = desk("grid 4 by 3 day 2;");
        due("worst(0) without craft", z.worst(0), 2);
    }

    private static void promise25() {
        OrbitDesk x = desk(BOW);
        due("never()", x.never(), 20);
        x.lose(1);
        due("never() without b", x.never(), 25);
        x.lose(0);
        due("never() without all", x.never(), 40);
        due("never() without a desk", new OrbitDesk().never(), NONE);
        due("never() of the ring", desk(RING).never(), 0);
    }

    private static void promise26() {
        OrbitDesk x = desk(RING);
        due("soon(0)", x.soon(0), 2);
        due("soon(9999)", x.soon(9999), 2);
        x.lose(0);
        due("soon(0)", x.soon(0), 4);
        due("soon(3)", x.soon(3), 4);
        x.lose(1);
        due("soon(0) with none", x.soon(0), NONE);
        x.find(0);
        x.reach(0, 12);
        due("at once: with this tick", x.soon(7), 1);
        due("soon(10000)", x.soon(10000), NONE);
        due("soon(-1)", x.soon(-1), NONE);
        due("soon(0) without a desk", new OrbitDesk().soon(0), NONE);
    }

    private static void promise27() {
        OrbitDesk x = desk(ALONE);
        int[] until = {0, 3, 2, 1};
        for (int t = 0; t < 8; t++) {
            due("next(" + t + ", 0, 0)", x.next(t, 0, 0), until[t % 4]);
        }
        due("next(9999, 0, 0)", x.next(9999, 0, 0), 1);
        due("next(10000, 0, 0)", x.next(10000, 0, 0), NONE);
        due("next(-1, 0, 0)", x.next(-1, 0, 0), NONE);
        due("next(0, 4, 0)", x.next(0, 4, 0), NONE);
        due("next(0, 0, 3)", x.next(0, 0, 3), NONE);
        x.reach(0, 0);
        due("next(0, 0, 0), never", x.next(0, 0, 0), NONE);
    }

    private static void promise28() {
        OrbitDesk x = desk(RING);
        int apart = x.score();
        due("best(0, 0)", x.best(0, 0), 0);
        due("best(0, 1)", x.best(0, 1), apart);
        due("best(1, 0)", x.best(1, 0), 1);
        x.phase(0, 1);
        due("nothing of it stays: best", x.best(0, 0), 0);
        due("nothing of it stays: phase", x.craft(0, 1), 1);
        due("nothing of it stays: acts", x.has(10), 1);
        due("best(0, 1)", x.best(0, 1), apart);
        x.lose(0);
        int one = x.score();
        due("a lost one is tried as it is: all alike", x.best(0, 0), 0);
        due("a lost one is tried as it is: SCORE", x.best(0, 1), one);
        due("best(1, 0) alone: all alike", x.best(1, 0), 0);
        due("best(2, 0)", x.best(2, 0), NONE);
        due("best(-1, 0)", x.best(-1, 0), NONE);
        due("best(0, 2)", x.best(0, 2), NONE);
        due("best(0, -1)", x.best(0, -1), NONE);
    }

    private static void promise29() {
        OrbitDesk x = desk(RING);
        x.phase(0, 1);
        due("worst(0) together", x.worst(0), 3);
        due("even(0, 0)", x.even(0, 0), 0);
        due("even(0, 1)", x.even(0, 1), 1);
        due("nothing of it stays", x.worst(0), 3);
        due("even(1, 0)", x.even(1, 0), NONE);
        due("even(-1, 0)", x.even(-1, 0), NONE);
        due("even(0, 2)", x.even(0, 2), NONE);
        due("even(0, -1)", x.even(0, -1), NONE);
        x.lose(0);
        due("one alone", x.even(0, 1), 3);
        x.lose(1);
        due("none is up", x.even(0, 0), NONE);
        // b is fixed at column 4 less t; a spread of p alone is best where a is the farthest from it in time.
        OrbitDesk y = desk("grid 8 by 3 day 8;plane p node 0 tilt 0 turn 4;plane q node 4 tilt 0 turn 8;"
            + "craft a in p phase 3 reach 2;craft b in q phase 0 reach 3;");
        int worst = 99;
        for (int phase = 0; phase < 4; phase++) {
            y.spread(0, phase);
            worst = Math.min(worst, y.worst(0));
        }
        due("even(0, 1) is the least of all", y.even(0, 1), worst);
        y.spread(0, y.even(0, 0));
        due("spread by it", y.worst(0), worst);
    }

    private static void promise30() {
        OrbitDesk x = desk(BOW);
        float score = 0f;
        int[] widths = {5, 4, 3, 4, 5, 4, 3, 4};
        for (int width : widths) {
            score += (float) width / 152f / 8f;
        }
        due("critical(0)", x.critical(0), 0);
        due("critical(1)", x.critical(1), 8);
        due("critical(2): by b alone", x.critical(2), Float.floatToIntBits(score));
        due("critical(3)", x.critical(3), NONE);
        due("critical(-1)", x.critical(-1), NONE);
        due("nothing of it stays", x.has(5), 2);
        x.lose(0);
        due("of those that are up", x.critical(0), 1);
        x.lose(1);
        due("none is up", x.critical(0), NONE);
        due("without a desk", new OrbitDesk().critical(0), NONE);
        OrbitDesk y = desk(RING);
        due("of like ones the first", y.critical(0), 0);
        due("the gap without it", y.critical(1), 3);
        y.reach(1, 2);
        due("the gap goes first", y.critical(0), 1);
        due("the gap goes first", y.critical(1), 3);
    }

    private static void promise31() {
        OrbitDesk x = desk(RING + "craft c in p phase 1 reach 1;");
        due("it is up", x.relief(0, 0), NONE);
        x.lose(0);
        due("b and c are alike: the first", x.relief(0, 0), 1);
        due("the gap by it", x.relief(0, 1), 1);
        due("nothing of it stays", x.worst(0), 3);
        x.lose(1);
        due("of those that are up", x.relief(0, 0), 2);
        due("the gap by it alone", x.relief(0, 1), 3);
        due("relief(0, 2)", x.relief(0, 2), NONE);
        due("relief(0, -1)", x.relief(0, -1), NONE);
        due("relief(3, 0)", x.relief(3, 0), NONE);
        due("relief(-1, 0)", x.relief(-1, 0), NONE);
        x.lose(2);
        due("none is up", x.relief(0, 0), NONE);
        OrbitDesk y = desk("grid 4 by 3 day 4;plane p node 0 tilt 0 turn 2;plane q node 0 tilt 0 turn 2;"
            + "craft a in p phase 0 reach 1;craft b in q phase 0 reach 1;");
        y.lose(0);
        due("none is up in its plane", y.relief(0, 0), NONE);
    }

    private static void promise32() {
        // Both planes alike: SCORE is greatest where their craft are apart.
        OrbitDesk x = desk("grid 4 by 3 day 4;plane p node 0 tilt 0 turn 2;plane q node 0 tilt 0 turn 2;"
            + "craft a in p phase 0 reach 1;craft b in q phase 0 reach 1;");
        int apart = desk(RING).score();
        due("bestNode(0, 0)", x.bestNode(0, 0), 1);
        due("bestNode(0, 1)", x.bestNode(0, 1), apart);
        due("nothing of it stays", x.plane(0, 0), 0);
        due("bestNode(0, 2)", x.bestNode(0, 2), NONE);
        due("bestNode(0, -1)", x.bestNode(0, -1), NONE);
        due("bestNode(2, 0)", x.bestNode(2, 0), NONE);
        due("bestNode(-1, 0)", x.bestNode(-1, 0), NONE);
        x.lose(0);
        due("of like ones the least", x.bestNode(0, 0), 0);
        due("SCORE as it is", x.bestNode(0, 1), x.score());
    }

    private static void promise33() {
        OrbitDesk x = desk(RING);
        due("fewest(0, 0): not by all", x.fewest(0, 0), NONE);
        due("fewest(0, 1): not by all", x.fewest(0, 1), NONE);
        due("fewest(1, 0)", x.fewest(1, 0), 3);
        due("fewest(1, 1)", x.fewest(1, 1), 2);
        due("fewest(3, 0)", x.fewest(3, 0), 1);
        due("fewest(3, 1)", x.fewest(3, 1), 1);
        due("fewest(4, 0): none is needed", x.fewest(4, 0), 0);
        due("fewest(4, 1): none is needed", x.fewest(4, 1), 0);
        due("fewest(MAX, 0)", x.fewest(Integer.MAX_VALUE, 0), 0);
        x.lose(0);
        due("of those that are up", x.fewest(3, 0), 2);
        due("of those that are up", x.fewest(2, 0), NONE);
        due("fewest(-1, 0)", x.fewest(-1, 0), NONE);
        due("fewest(4, 2)", x.fewest(4, 2), NONE);
        due("fewest(4, -1)", x.fewest(4, -1), NONE);
        due("without a desk", new OrbitDesk().fewest(4, 0), NONE);
        // a and b are the lesser bits, c alone (it sees all cells from anywhere) is the fewer craft.
        OrbitDesk y = desk(RING + "craft c in p phase 0 reach 2;");
        due("fewest(1, 0) by c", y.fewest(1, 0), 4);
        due("fewest(1, 1) by c", y.fewest(1, 1), 1);
        due("fewest(0, 0) by c", y.fewest(0, 0), 4);
        y.lose(2);
        due("fewest(1, 0) without c", y.fewest(1, 0), 3);
        due("without craft", desk("grid 4 by 3 day 2;").fewest(2, 0), 0);
        due("without craft", desk("grid 4 by 3 day 2;").fewest(1, 0), NONE);
    }

    private static void promise34() {
        OrbitDesk x = desk(RING);
        due("meets(0, 1)", x.meets(0, 1), 0);
        x.phase(1, 0);
        x.lose(0);
        due("meets(0, 1), lost", x.meets(0, 1), 4);
        due("meets(1, 0)", x.meets(1, 0), 4);
        due("meets(1, 1)", x.meets(1, 1), NONE);
        due("meets(0, 2)", x.meets(0, 2), NONE);
        due("meets(-1, 0)", x.meets(-1, 0), NONE);
        OrbitDesk y = desk("grid 8 by 5 day 8;plane p node 0 tilt 2 turn 8;plane q node 0 tilt 1 turn 8;"
            + "craft a in p phase 0 reach 1;craft b in q phase 0 reach 0;");
        due("0 1 2 1 0 -1 -2 -1 and 0 0 1 1 0 0 -1 -1 rows above", y.meets(0, 1), 4);
    }

    private static void promise35() {
        OrbitDesk x = desk(BOW);
        due("extreme(true, 0)", x.extreme(true, 0), 0);
        due("extreme(true, 1)", x.extreme(true, 1), 6);
        due("extreme(false, 0)", x.extreme(false, 0), 2);
        due("extreme(false, 1)", x.extreme(false, 1), 5);
        due("extreme(true, 2)", x.extreme(true, 2), NONE);
        due("extreme(true, -1)", x.extreme(true, -1), NONE);
        due("without a desk", new OrbitDesk().extreme(false, 0), NONE);
    }

    private static void promise36() {
        OrbitDesk x = desk(RING);
        due("depth(1, 1, 0)", x.depth(1, 1, 0), 2);
        due("depth(1, 1, 1)", x.depth(1, 1, 1), 0);
        due("depth(1, 1, 2)", x.depth(1, 1, 2), 2);
        due("depth(0, 1, 1)", x.depth(0, 1, 1), 1);
        due("depth(1, 0, 0)", x.depth(1, 0, 0), 1);
        due("depth(1, 0, 1)", x.depth(1, 0, 1), 1);
        due("depth(1, 0, 2)", x.depth(1, 0, 2), 0);
        x.lose(0);
        x.lose(1);
        due("depth of none", x.depth(1, 1, 0), 0);
        due("depth of none: the first tick", x.depth(1, 1, 1), 0);
        due("depth(1, 1, 3)", x.depth(1, 1, 3), NONE);
        due("depth(1, 1, -1)", x.depth(1, 1, -1), NONE);
        due("depth(4, 1, 0)", x.depth(4, 1, 0), NONE);
        due("depth(1, 3, 0)", x.depth(1, 3, 0), NONE);
    }

    private static void promise37() {
        OrbitDesk x = desk(RING + "craft c in p phase 0 reach 1;craft d in p phase 1 reach 1;");
        // Without a and c, or b and d, one side is left: the gap is 3; without others both sides are: 1.
        due("couple(0)", x.couple(0), 0);
        due("couple(1)", x.couple(1), 2);
        due("couple(2)", x.couple(2), 3);
        x.lose(0);
        due("all two leave one side: the first", x.couple(0), 1);
        due("all two leave one side: the first", x.couple(1), 2);
        due("couple(2)", x.couple(2), 3);
        x.lose(1);
        due("couple(2) of two", x.couple(2), 4);
        due("couple(0) of two", x.couple(0), 2);
        due("couple(1) of two", x.couple(1), 3);
        due("nothing of it stays", x.has(5), 2);
        due("couple(3)", x.couple(3), NONE);
        due("couple(-1)", x.couple(-1), NONE);
        x.lose(2);
        due("one is up", x.couple(0), NONE);
        due("without a desk", new OrbitDesk().couple(0), NONE);
    }

    private static void promise38() {
        OrbitDesk x = desk(SITES);
        due("carry(0, 0, 0)", x.carry(0, 0, 0), 0);
        due("carry(0, 0, 1)", x.carry(0, 0, 1), 6);
        due("carry(0, 1, 0): taken at 5, given at 5", x.carry(0, 1, 0), 6);
        due("carry(6, 1, 0)", x.carry(6, 1, 0), 2);
        due("carry(6, 0, 1): taken and given in one tick", x.carry(6, 0, 1), 2);
        due("carry(9998, 0, 1)", x.carry(9998, 0, 1), 2);
        due("never to z", x.carry(0, 0, 2), NONE);
        due("carry(10000, 0, 0)", x.carry(10000, 0, 0), NONE);
        due("carry(-1, 0, 1)", x.carry(-1, 0, 1), NONE);
        due("carry(0, 3, 0)", x.carry(0, 3, 0), NONE);
        due("carry(0, 0, 3)", x.carry(0, 0, 3), NONE);
        due("carry(0, -1, 0)", x.carry(0, -1, 0), NONE);
        x.lose(0);
        due("a lost one carries nothing", x.carry(0, 0, 1), NONE);
        due("but from a site to itself", x.carry(0, 1, 1), 0);
        // a sees u at 2 and v at 6, b sees v at 5 and w at 1, all by a cycle of 8: from 10 on w has it at 25.
        OrbitDesk y = desk("grid 8 by 5 day 8;plane p node 0 tilt 2 turn 8;plane q node 1 tilt 2 turn 8;"
            + "craft a in p phase 0 reach 1;craft b in q phase 1 reach 1;site u at 7 4 from 0 to 8;"
            + "site v at 1 0 from 0 to 8;site w at 3 4 from 0 to 8;");
        due("carry(3, 0, 1)", y.carry(3, 0, 1), 12);
        due("in two cycles", y.carry(10, 0, 2), 16);
        due("in two cycles and a tick", y.carry(9, 0, 2), NONE);
        due("holders(9, 0, 16)", y.holders(9, 0, 16), 3);
        due("holders(9, 0, 17)", y.holders(9, 0, 17), 7);
    }

    private static void promise39() {
        OrbitDesk x = desk(SITES);
        due("holders(0, 0, 0)", x.holders(0, 0, 0), 1);
        due("holders(0, 1, 0)", x.holders(0, 1, 0), 2);
        due("holders(0, 0, 5)", x.holders(0, 0, 5), 1);
        due("holders(0, 0, 6)", x.holders(0, 0, 6), 3);
        due("holders(9999, 2, 480)", x.holders(9999, 2, 480), 4);
        due("holders(0, 0, 481)", x.holders(0, 0, 481), NONE);
        due("holders(0, 0, -1)", x.holders(0, 0, -1), NONE);
        due("holders(10000, 0, 0)", x.holders(10000, 0, 0), NONE);
        due("holders(-1, 0, 0)", x.holders(-1, 0, 0), NONE);
        due("holders(0, 3, 0)", x.holders(0, 3, 0), NONE);
        due("holders(0, -1, 0)", x.holders(0, -1, 0), NONE);
    }

    private static void promise40() {
        OrbitDesk x = desk(SITES);
        due("source(0, 6, 0)", x.source(0, 6, 0), 0);
        due("source(0, 6, 1)", x.source(0, 6, 1), 2);
        due("source(0, 5, 1)", x.source(0, 5, 1), 1);
        due("source(0, 0, 0)", x.source(0, 0, 0), 0);
        // From tick 6 on y is seen first, and x only at 7; in one tick none goes on.
        due("source(6, 1, 1)", x.source(6, 1, 1), 1);
        due("source(0, 481, 0)", x.source(0, 481, 0), NONE);
        due("source(0, -1, 0)", x.source(0, -1, 0), NONE);
        due("source(10000, 0, 0)", x.source(10000, 0, 0), NONE);
        due("source(-1, 0, 0)", x.source(-1, 0, 0), NONE);
        due("source(0, 0, 2)", x.source(0, 0, 2), NONE);
        due("source(0, 0, -1)", x.source(0, 0, -1), NONE);
        due("without sites", desk(RING).source(0, 0, 0), NONE);
        // The craft is above columns 0, 1, 2, 3: u's word goes to later ones, w's has farther to go.
        OrbitDesk y = desk(ALONE + "site w at 3 1 from 0 to 1;site u at 0 1 from 0 to 1;");
        due("source(1, 2, 0)", y.source(1, 2, 0), 1);
        due("source(1, 2, 1)", y.source(1, 2, 1), 2);
    }

    private static void promise41() {
        OrbitDesk x = desk(RING);
        feed(x, 0, 0, 0, 1, 3, 3, 2, 0);
        due("note()", x.note(), 2);
        due("the tape is gone", x.end(1), false);
        due("has(9)", x.has(9), 2);
        int[][] wrongs = {{}, {0}, {0, 0, 0}, {0, 0, 0, 1, 0}, {4, 0, 0, 1}, {0, 4, 0, 1}, {0, 0, 3, 1}, {0, 0, 0, 2},
            {0, 0, 0, 1, 255, 0, 0, 1}, {0, 0, 0, 255}, new int[68]};
        for (int i = 0; i < wrongs.length; i++) {
            feed(x, wrongs[i]);
            due("wrong note " + i, x.note(), NONE);
            due("the tape is gone", x.end(1), false);
        }
        due("status(5)", x.status(5), wrongs.length);
        due("all stays", x.has(9), 2);
        feed(x, new int[64]);
        due("16 rows", x.note(), 16);
        due("they stand for those ahead", x.has(9), 16);
        OrbitDesk y = new OrbitDesk();
        feed(y, 0, 0, 0, 1);
        due("without a desk", y.note(), NONE);
        due("without a desk the tape goes, too", y.end(1), false);
        due("status(5)", y.status(5), 1);
        OrbitDesk z = desk("grid 4 by 3 day 80;plane p node 0 tilt 0 turn 48;");
        feed(z, 239, 3, 2, 0);
        due("tick 239 of 240", z.note(), 1);
        feed(z, 240, 3, 2, 0);
        due("tick 240 of 240", z.note(), NONE);
    }

    private static void promise42() {
        OrbitDesk x = desk(RING);
        suspects(x, 0, 1, 2);
        feed(x, 0, 0, 0, 1);
        x.note();
        suspects(x, 1, 2);
        feed(x, 0, 0, 0, 0);
        x.note();
        suspects(x, 0);
        feed(x, 0, 0, 0, 0, 0, 2, 0, 0);
        x.note();
        suspects(x);
        x.lose(0);
        suspects(x, 1);
        feed(x, 0, 1, 1, 1);
        x.note();
        suspects(x, 2);
        due("without a desk", new OrbitDesk().suspect(NONE), NONE);
        due("without a desk", new OrbitDesk().suspect(0), NONE);
        suspects(desk("grid 4 by 3 day 2;"), 0);
    }

    private static void suspects(OrbitDesk x, int... list) {
        due("suspect(NONE)", x.suspect(NONE), list.length);
        for (int k = 0; k < list.length; k++) {
            due("suspect(" + k + ")", x.suspect(k), list[k]);
        }
        due("suspect(" + list.length + ")", x.suspect(list.length), NONE);
        due("suspect(-2)", x.suspect(-2), NONE);
    }

    private static void promise43() {
        OrbitDesk x = desk(RING);
        due("tells(0)", x.tells(0), 0);
        due("tells(1): a's and b's loss look alike", x.tells(1), 2);
        feed(x, 0, 0, 0, 1);
        x.note();
        due("tells(1)", x.tells(1), 1);
        due("tells(2)", x.tells(2), NONE);
        due("tells(-1)", x.tells(-1), NONE);
        feed(x, 0, 0, 0, 1, 0, 0, 0, 0);
        x.note();
        due("without suspects", x.tells(0), NONE);
        due("without a desk", new OrbitDesk().tells(0), NONE);
        // a covers 5 4 cells in turn, b 1: at tick 0 the loss of a leaves 1 cell, of b 5, of none 6; all unlike.
        OrbitDesk y = desk(BOW);
        due("tells(0) of the bow", y.tells(0), 0);
        due("tells(1) of the bow", y.tells(1), 1);
        // a and b are together at tick 0 alone, where either's loss does not show; at tick 1 it does.
        OrbitDesk z = desk("grid 8 by 3 day 8;plane p node 0 tilt 0 turn 8;plane q node 0 tilt 0 turn 4;"
            + "craft a in p phase 0 reach 0;craft b in q phase 0 reach 0;");
        due("tells(0)", z.tells(0), 1);
        due("tells(1)", z.tells(1), 2);
        StringBuilder eight = new StringBuilder("grid 4 by 3 day 4;plane p node 0 tilt 0 turn 2;");
        for (int i = 0; i < 8; i++) {
            eight.append("craft ").append("abcdefgh".charAt(i)).append(" in p phase 0 reach 1;");
        }
        OrbitDesk all = desk(eight.toString());
        due("tells(0): no loss shows", all.tells(0), 0);
        due("tells(1): no loss shows", all.tells(1), 9);
    }

    private static void promise44() {
        OrbitDesk x = desk(RING);
        due("lose(0)", x.lose(0), true);
        due("it is lost", x.craft(0, 3), 0);
        due("lose(0) again", x.lose(0), false);
        due("lose(2)", x.lose(2), false);
        due("lose(-1)", x.lose(-1), false);
        due("status(2)", x.status(2), 3);
        due("has(10)", x.has(10), 1);
        due("without a desk", new OrbitDesk().lose(0), false);
    }

    private static void promise45() {
        OrbitDesk x = desk(RING);
        due("find(0), up", x.find(0), false);
        x.lose(0);
        due("find(0)", x.find(0), true);
        due("it is up", x.craft(0, 3), 1);
        due("it sees", x.sees(0, 0, 0, 1), 1);
        due("find(2)", x.find(2), false);
        due("find(-1)", x.find(-1), false);
        due("status(2)", x.status(2), 3);
        due("has(10)", x.has(10), 2);
    }

    private static void promise46() {
        OrbitDesk x = desk(BOW);
        due("phase(0, 7)", x.phase(0, 7), true);
        due("it has it", x.craft(0, 1), 7);
        due("spot", x.spot(0, 0, 1), 1);
        due("phase(0, 7) again", x.phase(0, 7), false);
        due("phase(0, 8)", x.phase(0, 8), false);
        due("phase(0, -1)", x.phase(0, -1), false);
        due("phase(2, 0)", x.phase(2, 0), false);
        due("phase(-1, 0)", x.phase(-1, 0), false);
        due("status(3)", x.status(3), 5);
        due("has(10)", x.has(10), 1);
        x.lose(1);
        due("of a lost one", x.phase(1, 0), true);
    }

    private static void promise47() {
        OrbitDesk x = desk(BOW);
        due("reach(0, 12)", x.reach(0, 12), true);
        due("it has it", x.craft(0, 2), 12);
        due("it sees", x.sees(0, 0, 4, 0), 1);
        due("reach(0, 12) again", x.reach(0, 12), false);
        due("reach(0, 13)", x.reach(0, 13), false);
        due("reach(0, -1)", x.reach(0, -1), false);
        due("reach(2, 0)", x.reach(2, 0), false);
        due("reach(-1, 0)", x.reach(-1, 0), false);
        due("status(3)", x.status(3), 5);
        due("has(10)", x.has(10), 1);
    }

    private static void promise48() {
        OrbitDesk x = desk(BOW);
        due("node(0, 7)", x.node(0, 7), true);
        due("it has it", x.plane(0, 0), 7);
        due("spot a", x.spot(0, 0, 0), 7);
        due("spot b", x.spot(1, 0, 0), 3);
        due("node(0, 7) again", x.node(0, 7), false);
        due("node(0, 8)", x.node(0, 8), false);
        due("node(0, -1)", x.node(0, -1), false);
        due("node(1, 0)", x.node(1, 0), false);
        due("node(-1, 0)", x.node(-1, 0), false);
        due("status(3)", x.status(3), 5);
        due("has(10)", x.has(10), 1);
    }

    private static void promise49() {
        OrbitDesk x = desk("grid 8 by 5 day 8;plane p node 0 tilt 2 turn 8;plane q node 0 tilt 0 turn 4;"
            + "craft a in p phase 0 reach 1;craft b in p phase 0 reach 1;craft c in q phase 0 reach 1;"
            + "craft d in p phase 0 reach 1;craft e in p phase 1 reach 1;");
        due("spread(0, 7) of four", x.spread(0, 7), 4);
        int[] four = {7, 1, 0, 3, 5};
        for (int craft = 0; craft < 5; craft++) {
            due("phase of " + craft, x.craft(craft, 1), four[craft]);
        }
        x.lose(1);
        due("spread(0, 0) of three", x.spread(0, 0), 3);
        int[] three = {0, 1, 0, 2, 5};
        for (int craft = 0; craft < 5; craft++) {
            due("phase of " + craft, x.craft(craft, 1), three[craft]);
        }
        due("spread again: an act all the same", x.spread(0, 0), 3);
        due("has(10)", x.has(10), 4);
        due("spread(0, 8)", x.spread(0, 8), NONE);
        due("spread(1, 4)", x.spread(1, 4), NONE);
        due("spread(0, -1)", x.spread(0, -1), NONE);
        due("spread(2, 0)", x.spread(2, 0), NONE);
        due("spread(-1, 0)", x.spread(-1, 0), NONE);
        x.lose(2);
        due("none is up", x.spread(1, 0), NONE);
        due("status(3)", x.status(3), 6);
    }

    private static void promise50() {
        OrbitDesk x = desk(RING);
        due("chance(1): a node", x.chance(1), 2);
        due("node", x.plane(0, 0), 2);
        due("the seed", x.has(11), 662824084);
        due("chance(1): a loss", x.chance(1), 1);
        due("lost", x.craft(0, 3), 0);
        due("the seed", x.has(11), 2035015474);
        due("chance(0)", x.chance(0), NONE);
        due("chance(41)", x.chance(41), NONE);
        due("chance(-1)", x.chance(-1), NONE);
        due("status(2)", x.status(2), 3);
        due("the seed stays, refused", x.has(11), 2035015474);
        due("each is one act", x.has(10), 2);
        x.chance(40);
        due("one act", x.has(10), 3);
        OrbitDesk y = desk("grid 4 by 3 day 2;");
        due("without craft", y.chance(1), NONE);
        due("without a desk", new OrbitDesk().chance(1), NONE);
        OrbitDesk once = desk(RING);
        OrbitDesk twice = desk(RING);
        once.chance(2);
        twice.chance(1);
        twice.chance(1);
        due("two at once are two in turn", once.has(11), twice.has(11));
        due("two at once are two in turn", once.craft(0, 3), 0);
        once.seed(Integer.MAX_VALUE);
        once.chance(1);
        due("the seed stays below 2 to the 31", once.has(11) >= 0, true);
    }

    private static void promise51() {
        OrbitDesk x = desk(RING);
        due("undo() of nothing", x.undo(), false);
        x.lose(0);
        x.phase(1, 0);
        x.reach(1, 5);
        x.node(0, 3);
        x.spread(0, 1);
        x.chance(40);
        int seed = x.has(11);
        feed(x, 0, 0, 0, 1);
        x.note();
        due("undo chance", x.undo(), true);
        due("the seed stays", x.has(11), seed);
        due("what is noted stays", x.has(9), 1);
        due("b's phase by the spread", x.craft(1, 1), 1);
        due("undo spread", x.undo(), true);
        due("b's phase", x.craft(1, 1), 0);
        due("undo node", x.undo(), true);
        due("node", x.plane(0, 0), 0);
        due("undo reach", x.undo(), true);
        due("reach", x.craft(1, 2), 1);
        due("undo phase", x.undo(), true);
        due("phase", x.craft(1, 1), 1);
        due("undo lose", x.undo(), true);
        due("up", x.craft(0, 3), 1);
        due("undo()", x.undo(), false);
        due("status(4)", x.status(4), 2);
        for (int i = 1; i <= 23; i++) {
            x.reach(0, i % 2 == 0 ? 1 : 1 + i % 11);
            x.node(0, i % 4);
        }
        due("the last 20", x.has(10), 20);
        for (int i = 0; i < 20; i++) {
            due("undo " + i, x.undo(), true);
        }
        due("the 21st", x.undo(), false);
    }

    private static void promise52() {
        OrbitDesk x = new OrbitDesk();
        due("seed(0)", x.seed(0), true);
        due("has(11)", x.has(11), 0);
        due("seed(MAX)", x.seed(Integer.MAX_VALUE), true);
        due("has(11)", x.has(11), Integer.MAX_VALUE);
        due("seed(-1)", x.seed(-1), false);
        due("seed(MIN)", x.seed(Integer.MIN_VALUE), false);
        due("has(11)", x.has(11), Integer.MAX_VALUE);
        due("status(5)", x.status(5), 2);
    }

    private static void promise53() {
        due("image() without a desk", new OrbitDesk().image(), 1);
        due("image()", desk(RING).image(), 8);
        due("image() of a grid", desk("grid 4 by 3 day 2;").image(), 1);
    }

    private static void promise54() {
        OrbitDesk x = desk(RING);
        due("octet(0) ahead of any", x.octet(0), NONE);
        x.image();
        int[] bytes = {0, 1, 0, 1, 1, 1, 1, 56};
        for (int k = 0; k < bytes.length; k++) {
            due("octet(" + k + ")", x.octet(k), bytes[k]);
        }
        due("octet(8)", x.octet(8), NONE);
        due("octet(-1)", x.octet(-1), NONE);
        x.lose(0);
        due("of the latest image()", x.octet(1), 1);
        x.image();
        due("of the latest image()", x.octet(1), 0);
        OrbitDesk y = new OrbitDesk();
        y.image();
        due("octet(0) without a desk", y.octet(0), 167);
    }

    private static void promise55() {
        OrbitDesk x = desk(RING);
        x.lose(1);
        feed(x, imageBytes(3, 0, 1, 12, 1, 0, 0));
        due("on()", x.on(), true);
        due("the tape is gone", x.end(1), false);
        int[] due = {3, 0, 1, 12, 1, 0, 0};
        int[] is = {x.plane(0, 0), x.craft(0, 3), x.craft(0, 1), x.craft(0, 2), x.craft(1, 3), x.craft(1, 1),
            x.craft(1, 2)};
        for (int i = 0; i < due.length; i++) {
            due("entry " + i, is[i], due[i]);
        }
        due("nothing can be undone", x.undo(), false);
        due("what is seen goes by it", x.covered(0), 1);
        x.node(0, 1);
        int[][] wrongs = {{}, {3, 0, 1, 12, 1, 0}, {3, 0, 1, 12, 1, 0, 0, 0}, {4, 0, 1, 12, 1, 0, 0},
            {3, 2, 1, 12, 1, 0, 0}, {3, 0, 2, 12, 1, 0, 0}, {3, 0, 1, 13, 1, 0, 0}, {3, 0, 1, 12, 255, 0, 0}};
        for (int i = 0; i < wrongs.length; i++) {
            feed(x, imageBytes(wrongs[i]));
            due("wrong image " + i, x.on(), false);
            due("the tape is gone", x.end(1), false);
        }
        int[] bad = imageBytes(3, 0, 1, 12, 1, 0, 0);
        bad[7]++;
        feed(x, bad);
        due("a wrong last byte", x.on(), false);
        due("nothing fed", x.on(), false);
        due("status(5)", x.status(5), wrongs.length + 2);
        due("all stays: node", x.plane(0, 0), 1);
        due("all stays: acts", x.has(10), 1);
        due("all stays: reach", x.craft(0, 2), 12);
        OrbitDesk y = new OrbitDesk();
        feed(y, 167);
        due("without a desk", y.on(), false);
        OrbitDesk z = desk("grid 4 by 3 day 2;");
        feed(z, 167);
        due("a grid alone", z.on(), true);
    }

    private static void promise56() {
        OrbitDesk x = new OrbitDesk();
        x.end(1);
        x.desk();
        x.desk();
        x.lose(0);
        x.find(0);
        x.chance(1);
        x.phase(0, 0);
        x.reach(0, 0);
        x.node(0, 0);
        x.spread(0, 0);
        x.undo();
        x.undo();
        x.undo();
        x.undo();
        x.undo();
        x.seed(-1);
        x.note();
        x.on();
        x.on();
        x.on();
        x.on();
        int[] counts = {1, 2, 3, 4, 5, 6};
        for (int what = 0; what < 6; what++) {
            due("status(" + what + ")", x.status(what), counts[what]);
        }
        due("status(6)", x.status(6), NONE);
        due("status(-1)", x.status(-1), NONE);
        feed(x, RING);
        x.desk();
        due("a desk leaves them", x.status(5), 6);
    }

    public static void main(String[] args) throws Exception {
        test = "what it is";
        whatItIs();
        for (int promise = 1; promise <= 56; promise++) {
            test = "promise " + promise;
            PromiseTests.class.getDeclaredMethod("promise" + promise).invoke(null);
        }
        System.out.println("PromiseTests: " + checks + " checks, " + wrong + " wrong");
        if (wrong != 0) {
            System.exit(1);
        }
    }
}
