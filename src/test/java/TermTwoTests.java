/** Term II, sentence by sentence: where craft are, what they see, passes and gaps round the cycle, acts, draws. */
final class TermTwoTests extends Checks {
    /** Turn and day are alike, so the craft stays in column 3; v is u, so it is in row 6 and u, 6 less .. in turn. */
    private static final String STEEP = "grid 24 by 12 day 24;plane p node 0 tilt 6 turn 24;"
        + "craft a in p phase 3 reach 5;";

    private TermTwoTests() {
    }

    private static void rows(String text, int... rows) {
        OrbitDesk x = desk(text);
        for (int t = 0; t < rows.length; t++) {
            due("row at " + t, x.spot(0, t, 1), rows[t]);
        }
    }

    private static void columns(String text, int... columns) {
        OrbitDesk x = desk(text);
        for (int t = 0; t < columns.length; t++) {
            due("column at " + t, x.spot(0, t, 0), columns[t]);
        }
    }

    @Says("All quotients of whole numbers are cut.")
    static void termII_quotientsAreCut() {
        // v = 12 u / 7: 0 1 3 5 6 8 10 (cut from 1.7, 3.4, 5.1, 6.9, 8.6, 10.3); 9 columns by 7: 0 1 2 3 5 6 7.
        rows("grid 9 by 7 day 2;plane p node 0 tilt 3 turn 7;craft a in p phase 0 reach 0;", 3, 4, 6, 4, 3, 1, 1);
        columns("grid 9 by 7 day 2;plane p node 0 tilt 3 turn 7;craft a in p phase 0 reach 0;",
            0, 6, 2, 8, 5, 2, 7, 5);
        due("half of what 0 and 11 are apart", desk("grid 4 by 12 day 2;").width(0), 7);
    }

    @Says("A CRAFT is UP or lost (all are UP at first).")
    static void termII_allAreUpAtFirst() {
        OrbitDesk x = desk(RING);
        due("up", x.has(5), 2);
        due("a", x.craft(0, 3), 1);
        due("b", x.craft(1, 3), 1);
        x.lose(1);
        due("b lost", x.craft(1, 3), 0);
        feed(x, RING);
        x.desk();
        due("up again by a new desk", x.craft(1, 3), 1);
    }

    @Says("The CYCLE is the least number of TICKS into which day and the turn of every PLANE go")
    static void termII_theCycleIsTheLeastCommon() {
        due("by day alone", desk("grid 4 by 3 day 7;").has(7), 7);
        due("of 6 and 4", desk("grid 4 by 3 day 6;plane p node 0 tilt 0 turn 4;").has(7), 12);
        due("a plane without craft", desk(ALONE + "plane q node 0 tilt 0 turn 3;").has(7), 12);
        due("turn goes into day", desk("grid 4 by 3 day 96;plane p node 0 tilt 0 turn 48;").has(7), 96);
        due("day goes into turn", desk("grid 4 by 3 day 2;plane p node 0 tilt 0 turn 96;").has(7), 96);
        due("of four planes", desk("grid 4 by 3 day 2;plane p node 0 tilt 0 turn 3;plane q node 0 tilt 0 turn 4;"
            + "plane r node 0 tilt 0 turn 5;plane s node 0 tilt 0 turn 6;").has(7), 60);
    }

    @Says("(whoever is lost).")
    static void termII_theCycleStaysWhoeverIsLost() {
        OrbitDesk x = desk(ALONE + "plane q node 0 tilt 0 turn 3;craft b in q phase 0 reach 1;");
        due("cycle", x.has(7), 12);
        x.lose(1);
        due("b is lost", x.has(7), 12);
        x.lose(0);
        due("all are lost", x.has(7), 12);
        due("a gap of it all", x.worst(0), 12);
    }

    @Says("At a TICK t (0 and on) a CRAFT has gone u = (phase + t) mod turn of its ring,")
    static void termII_howFarACraftHasGone() {
        String head = "grid 8 by 5 day 8;plane p node 0 tilt 2 turn 8;craft a in p phase ";
        rows(head + "0 reach 0;", 2, 3, 4, 3, 2, 1, 0, 1, 2);
        rows(head + "7 reach 0;", 1, 2, 3, 4, 3, 2, 1, 0, 1);
        due("at tick 9999, as at 7", desk(head + "7 reach 0;").spot(0, 9999, 1), 0);
        due("at tick 9998, as at 6", desk(head + "7 reach 0;").spot(0, 9998, 1), 1);
    }

    @Says("turn being that of its PLANE, tilt, node likewise.")
    static void termII_turnTiltNodeAreItsPlanes() {
        OrbitDesk x = desk("grid 8 by 5 day 8;plane p node 1 tilt 1 turn 4;plane q node 5 tilt 2 turn 8;"
            + "craft a in q phase 2 reach 0;craft b in p phase 3 reach 0;");
        due("a's column", x.spot(0, 0, 0), 7);
        due("a's row", x.spot(0, 0, 1), 4);
        due("b's column", x.spot(1, 0, 0), 7);
        due("b's row", x.spot(1, 0, 1), 1);
        due("b's row a tick on", x.spot(1, 1, 1), 2);
        x.node(0, 0);
        due("b's column by another node", x.spot(1, 0, 0), 6);
        due("a's stays", x.spot(0, 0, 0), 7);
    }

    @Says({"With v = 4 u tilt / turn it is so many ROWS above the middle one (of number ROWS / 2):",
        "v, if that is tilt at most;"})
    static void termII_risingUpToTilt() {
        rows(STEEP.replace("phase 3", "phase 0").replace("by 12", "by 11").replace("tilt 6", "tilt 5"),
            5, 5, 6, 7, 8, 9, 10);
        due("the middle of 4 rows", desk("grid 4 by 4 day 2;plane p node 0 tilt 0 turn 2;craft a in p phase 1 reach 0;")
            .spot(0, 0, 1), 2);
        due("the middle of 5 rows", desk("grid 4 by 5 day 2;plane p node 0 tilt 0 turn 2;craft a in p phase 1 reach 0;")
            .spot(0, 0, 1), 2);
    }

    @Says("else 2 tilt less v, if v is 3 tilt at most;")
    static void termII_sinkingUpToThreeTilts() {
        // u = 6 .. 18: v = 6 .. 18, rows 12 (so 11) down to 0.
        rows(STEEP.replace("phase 3", "phase 6"), 11, 11, 10, 9, 8, 7, 6, 5, 4, 3, 2, 1, 0);
    }

    @Says("else v less 4 tilt (below 0: so many below;")
    static void termII_risingAgainFromBelow() {
        rows(STEEP.replace("phase 3", "phase 18"), 0, 1, 2, 3, 4, 5, 6, 7);
        // v = 8 u / 3: 0 2 5; 5 is 3 tilt at most: 1 below.  v = 8 u / 7: 0 1 2 3 4 5 6.
        rows("grid 4 by 5 day 2;plane p node 0 tilt 2 turn 3;craft a in p phase 0 reach 0;", 2, 4, 1);
        rows("grid 4 by 5 day 2;plane p node 0 tilt 2 turn 7;craft a in p phase 0 reach 0;", 2, 3, 4, 3, 2, 1, 0);
        rows("grid 4 by 5 day 2;plane p node 0 tilt 2 turn 9;craft a in p phase 8 reach 0;", 1, 2, 2, 3, 4, 3);
    }

    @Says("above the last ROW: in that).")
    static void termII_aboveTheLastRowIsInThat() {
        rows("grid 4 by 4 day 2;plane p node 0 tilt 2 turn 8;craft a in p phase 0 reach 0;", 2, 3, 3, 3, 2, 1, 0, 1);
        due("row 12 of 12 is 11", desk(STEEP).spot(0, 3, 1), 11);
        OrbitDesk x = desk("grid 4 by 4 day 8;plane p node 0 tilt 2 turn 8;craft a in p phase 2 reach 0;");
        due("it sees that row's cell", x.sees(0, 0, 2 * 4 / 8, 3), 1);
    }

    @Says("It is in COLUMN node and COLUMNS u / turn less COLUMNS (t mod day) / day, mod COLUMNS, 0 and on")
    static void termII_theColumnGoesRound() {
        // u by 4 is 0 2 4 6 columns on, t by 8 as many back as t.
        columns("grid 8 by 3 day 8;plane p node 7 tilt 0 turn 4;craft a in p phase 0 reach 0;",
            7, 0, 1, 2, 3, 4, 5, 6, 7);
        columns("grid 8 by 3 day 4;plane p node 0 tilt 0 turn 8;craft a in p phase 0 reach 0;",
            0, 7, 6, 5, 4, 3, 2, 1, 0);
        columns("grid 8 by 3 day 2;plane p node 7 tilt 0 turn 96;craft a in p phase 95 reach 0;", 6, 3, 7, 3);
    }

    @Says("(each quotient by itself).")
    static void termII_eachQuotientByItself() {
        // 5 u / 3: 0 1 3; 5 t / 2: 0 2.
        columns("grid 5 by 3 day 2;plane p node 0 tilt 0 turn 3;craft a in p phase 0 reach 0;", 0, 4, 3, 3, 1, 1, 0);
        // 5 u / 5: 0 .. 4; 5 t / 3: 0 1 3.
        columns("grid 5 by 3 day 3;plane p node 3 tilt 0 turn 5;craft a in p phase 0 reach 0;",
            3, 3, 2, 1, 1, 0, 4, 4, 3, 2, 2, 1, 0, 0, 4);
    }

    @Says("The WIDTH of a ROW of number r is ROWS less half (cut) of what 2 r and ROWS less 1 are apart.")
    static void termII_widths() {
        int[][] widths = {{2, 3, 2}, {3, 4, 4, 3}, {3, 4, 5, 4, 3}, {4, 5, 6, 6, 5, 4}, {4, 5, 6, 7, 6, 5, 4}};
        for (int[] row : widths) {
            OrbitDesk x = desk("grid 4 by " + row.length + " day 2;");
            for (int r = 0; r < row.length; r++) {
                due("width(" + r + ") of " + row.length, x.width(r), row[r]);
            }
        }
    }

    @Says("A CRAFT that is UP SEES a cell at a TICK, if")
    static void termII_aLostCraftSeesNothing() {
        OrbitDesk x = desk(ALONE);
        due("up", x.sees(0, 0, 0, 1), 1);
        x.lose(0);
        for (int t = 0; t < 4; t++) {
            due("lost, at " + t, x.sees(0, t, t, 1), 0);
        }
        due("no pass", x.passes(0, 1, 0), 0);
        due("none has it", x.seen(0, 0, 1), 0);
        x.find(0);
        due("up again", x.sees(0, 0, 0, 1), 1);
    }

    @Says("it is dx COLUMNS, the shorter way round, and dy ROWS from it,")
    static void termII_theShorterWayRound() {
        // In the middle row of 7 columns a reach of 2 goes two columns either way.
        OrbitDesk x = desk("grid 7 by 3 day 7;plane p node 0 tilt 0 turn 7;craft a in p phase 0 reach 2;");
        int[] two = {1, 1, 1, 0, 0, 1, 1};
        OrbitDesk y = desk("grid 8 by 3 day 8;plane p node 6 tilt 0 turn 8;craft a in p phase 0 reach 3;");
        int[] three = {1, 1, 0, 1, 1, 1, 1, 1};
        for (int column = 0; column < 8; column++) {
            due("of 7, column " + column, x.sees(0, 0, column, 1), column < 7 ? two[column] : NONE);
            due("of 8, column " + column, y.sees(0, 0, column, 1), three[column]);
        }
        x.reach(0, 3);
        due("half of 7 is far enough", x.covered(0), 21);
        // Rows do not go round: from row 4 row 0 is four away.
        OrbitDesk z = desk("grid 8 by 5 day 8;plane p node 0 tilt 2 turn 8;craft a in p phase 2 reach 3;");
        due("three rows down", z.sees(0, 0, 2, 1), 1);
        due("four rows down", z.sees(0, 0, 2, 0), 0);
    }

    @Says("and (dx WIDTH) squared and (dy ROWS) squared together are no more than (reach ROWS) squared,")
    static void termII_noMoreThanTheReachSquared() {
        OrbitDesk x = desk(STEEP);
        // In row 9 of column 3: 4 * 12 and 3 * 12 are 48 and 36, together as far as 5 * 12.
        due("48, 36 by 60", x.sees(0, 0, 7, 6), 1);
        due("48, 36 by 60, the other way", x.sees(0, 0, 23, 6), 1);
        due("60, 36 by 60", x.sees(0, 0, 8, 6), 0);
        due("straight down, 60 by 60", x.sees(0, 0, 3, 4), 1);
        due("straight down, 72 by 60", x.sees(0, 0, 3, 3), 0);
        x.reach(0, 4);
        due("48, 36 by 48", x.sees(0, 0, 7, 6), 0);
        x.reach(0, 0);
        due("reach 0: the cell below", x.sees(0, 0, 3, 9), 1);
        due("reach 0: no other", x.covered(0), 1);
        x.reach(0, 12);
        due("reach 12: 12 columns of width 12", x.sees(0, 21, 15, 6), 1);
        due("reach 12: and a row", x.sees(0, 22, 15, 6), 0);
    }

    @Says("by the WIDTH of the cell's ROW.")
    static void termII_byTheWidthOfTheCellsRow() {
        OrbitDesk x = desk(STEEP);
        // Above row 9 (of WIDTH 9): 5 columns would be 45 by it, but are 60 in row 6.
        due("row 6 is wider", x.sees(0, 0, 8, 6), 0);
        due("row 9: 6 columns are 54", x.sees(0, 0, 9, 9), 1);
        due("row 9: 7 columns are 63", x.sees(0, 0, 10, 9), 0);
        x.phase(0, 1);
        // Above row 7 (of WIDTH 11), column 1: in row 10 (WIDTH 8) 6 columns are 48.
        due("row 10 is narrower", x.sees(0, 0, 7, 10), 1);
        due("row 10: 7 columns are 56", x.sees(0, 0, 8, 10), 0);
    }

    @Says("A cell is SEEN at a TICK, if a CRAFT SEES it.")
    static void termII_seenByOneIsSeen() {
        OrbitDesk x = desk(RING);
        due("by a alone", x.seen(0, 0, 0), 1);
        due("by both", x.seen(0, 1, 1), 2);
        due("by none", x.seen(0, 1, 0), 0);
        due("8 cells: both see two of row 1", x.covered(0), 8);
        due("a gap needs all to miss it", x.gaps(1, 1), 0);
    }

    @Says({"A PASS of a cell by a CRAFT are TICKS running, as many as can be, at which it SEES it,",
        "round the CYCLE (behind its last TICK comes 0;"})
    static void termII_aPassGoesOverTheEndOfTheCycle() {
        OrbitDesk x = desk(BOW);
        // a is within one row of row 2 at ticks 0 1 3 4 5 7.
        due("two passes", x.passes(0, 2, 0), 2);
        due("3, 4, 5", x.pass(0, 2, 0, 0, 0), 3);
        due("3, 4, 5", x.pass(0, 2, 0, 0, 1), 3);
        due("7, 0, 1", x.pass(0, 2, 0, 1, 0), 7);
        due("7, 0, 1", x.pass(0, 2, 0, 1, 1), 3);
        // The cell (0, 4) is seen at 1 2 3: one pass, not over the end.
        due("1, 2, 3", x.passes(0, 4, 0), 1);
        due("1, 2, 3", x.pass(0, 4, 0, 0, 0), 1);
        due("1, 2, 3", x.pass(0, 4, 0, 0, 1), 3);
    }

    @Says("if at all, it is one that begins at 0);")
    static void termII_aPassAtAllTicksBeginsAtZero() {
        OrbitDesk x = desk(BOW);
        x.reach(0, 12);
        due("one pass", x.passes(5, 1, 0), 1);
        due("begins at 0", x.pass(5, 1, 0, 0, 0), 0);
        due("all ticks", x.pass(5, 1, 0, 0, 1), 8);
        due("one gap at all ticks", desk(BOW).gaps(2, 2), 1);
        due("begins at 0", desk(BOW).gap(2, 2, 0, 0), 0);
        due("all ticks", desk(BOW).gap(2, 2, 0, 1), 8);
    }

    @Says("a GAP of a cell likewise TICKS running at which it is not SEEN.")
    static void termII_aGapGoesOverTheEndOfTheCycle() {
        OrbitDesk x = desk(BOW);
        // The cell (1, 3) is seen by a at ticks 1 and 3 alone.
        due("gaps", x.gaps(1, 3), 2);
        due("2", x.gap(1, 3, 0, 0), 2);
        due("2", x.gap(1, 3, 0, 1), 1);
        due("4 .. 7, 0", x.gap(1, 3, 1, 0), 4);
        due("4 .. 7, 0", x.gap(1, 3, 1, 1), 5);
        // The cell (4, 2) is seen by b at 0 and 4.
        due("1, 2, 3", x.gap(4, 2, 0, 1), 3);
        due("5, 6, 7: up to the end", x.gap(4, 2, 1, 1), 3);
    }

    @Says("They are told by the TICK at which they begin, rising;")
    static void termII_toldRising() {
        OrbitDesk x = desk(BOW);
        due("the pass over the end is the last", x.pass(0, 2, NONE, 1, 0), 7);
        due("the gap over the end is the last", x.gap(1, 3, 1, 0), 4);
        for (int k = 1; k < x.gaps(4, 2); k++) {
            due("gap " + k, x.gap(4, 2, k, 0) > x.gap(4, 2, k - 1, 0), true);
        }
    }

    @Says("PASSES by whichever CRAFT, of like ones by CRAFT.")
    static void termII_passesOfAllCraftByTickThenByCraft() {
        OrbitDesk x = desk("grid 8 by 5 day 8;plane p node 0 tilt 2 turn 8;plane q node 4 tilt 2 turn 8;"
            + "craft a in p phase 4 reach 0;craft b in q phase 0 reach 12;craft c in q phase 0 reach 0;");
        // a and c are both above (4, 2) at 0 and 4; b sees it at all ticks.
        int[][] due = {{0, 1, 0}, {0, 8, 1}, {0, 1, 2}, {4, 1, 0}, {4, 1, 2}};
        due("passes", x.passes(4, 2, NONE), due.length);
        for (int k = 0; k < due.length; k++) {
            for (int what = 0; what < 3; what++) {
                due("pass " + k + ", " + what, x.pass(4, 2, NONE, k, what), due[k][what]);
            }
        }
        x.lose(1);
        due("passes without b", x.passes(4, 2, NONE), 4);
    }

    @Says({"ACTS: a CRAFT is lost, UP again;", "another phase, reach of a CRAFT;", "another node of a PLANE;"})
    static void termII_whatActsChange() {
        OrbitDesk x = desk(BOW);
        x.lose(1);
        x.find(1);
        x.phase(1, 3);
        x.reach(1, 9);
        x.node(0, 5);
        due("five acts", x.has(10), 5);
        x.image();
        int[] bytes = {5, 1, 0, 1, 1, 3, 9};
        for (int k = 0; k < bytes.length; k++) {
            due("octet(" + k + ")", x.octet(k), bytes[k]);
        }
    }

    @Says({"a PLANE is SPREAD from a phase: the k-th (0 and on) of its n CRAFT that are UP, by numbers,",
        "has that phase and k turn / n more, mod turn;"})
    static void termII_spread() {
        String five = "grid 8 by 5 day 8;plane p node 0 tilt 2 turn 8;plane q node 0 tilt 0 turn 4;"
            + "craft a in p phase 0 reach 1;craft b in p phase 0 reach 1;craft c in q phase 3 reach 1;"
            + "craft d in p phase 0 reach 1;craft e in p phase 6 reach 1;";
        OrbitDesk x = desk(five);
        x.lose(0);
        due("three are up", x.spread(0, 7), 3);
        // 8 k / 3: 0 2 5 from 7 on.
        int[] phases = {0, 7, 3, 1, 4};
        for (int craft = 0; craft < 5; craft++) {
            due("phase of " + craft, x.craft(craft, 1), phases[craft]);
        }
        OrbitDesk y = desk(five);
        due("one is up", y.spread(1, 2), 1);
        due("its phase", y.craft(2, 1), 2);
    }

    /** The least seed by which the first draws are that craft of three and that of 4. */
    private static int seedFor(int craft, int kind) {
        for (int seed = 0;; seed++) {
            long one = next(seed);
            long two = next(one);
            if ((one >> 6) % 3 == craft && (two >> 6) % 4 == kind) {
                return seed;
            }
        }
    }

    private static long next(long x) {
        return (1103515245L * x + 12345L) % 2147483648L;
    }

    private static OrbitDesk three() {
        return desk("grid 9 by 5 day 5;plane p node 4 tilt 2 turn 5;plane q node 8 tilt 1 turn 30;"
            + "craft a in p phase 4 reach 9;craft b in q phase 29 reach 9;craft c in p phase 3 reach 9;");
    }

    @Says("by the seed n times: a DRAW of the CRAFT, a DRAW of 4:")
    static void termII_chanceDrawsTheCraftThenTheKind() {
        for (int craft = 0; craft < 3; craft++) {
            OrbitDesk x = three();
            x.seed(seedFor(craft, 2));
            x.chance(1);
            for (int other = 0; other < 3; other++) {
                due("reach of " + other + " by a draw of " + craft, x.craft(other, 2) == 9, other != craft);
            }
        }
        OrbitDesk once = three();
        OrbitDesk thrice = three();
        once.chance(3);
        thrice.chance(1);
        thrice.chance(1);
        thrice.chance(1);
        once.image();
        thrice.image();
        for (int k = 0; k < 12; k++) {
            due("octet " + k + " of three at once, one by one", once.octet(k), thrice.octet(k));
        }
        due("the seed", once.has(11), thrice.has(11));
    }

    @Says("by 0 that one is lost, or UP again;")
    static void termII_chanceByZeroTurnsOver() {
        OrbitDesk x = three();
        int seed = seedFor(1, 0);
        x.seed(seed);
        due("up", x.chance(1), 2);
        due("lost", x.craft(1, 3), 0);
        due("two draws", x.has(11), next(next(seed)));
        x.seed(seed);
        due("up", x.chance(1), 3);
        due("up again", x.craft(1, 3), 1);
    }

    @Says("by 1 a DRAW of turn is its phase,")
    static void termII_chanceByOneDrawsThePhase() {
        for (int craft = 0; craft < 3; craft++) {
            OrbitDesk x = three();
            int seed = seedFor(craft, 1);
            long third = next(next(next(seed)));
            x.seed(seed);
            x.chance(1);
            due("phase of " + craft, x.craft(craft, 1), (third >> 6) % (craft == 1 ? 30 : 5));
            due("three draws", x.has(11), third);
        }
    }

    @Says("by 2 a DRAW of 7 its reach,")
    static void termII_chanceByTwoDrawsTheReach() {
        for (int craft = 0; craft < 3; craft++) {
            OrbitDesk x = three();
            int seed = seedFor(craft, 2);
            long third = next(next(next(seed)));
            x.seed(seed);
            x.chance(1);
            due("reach of " + craft, x.craft(craft, 2), (third >> 6) % 7);
            due("three draws", x.has(11), third);
        }
    }

    @Says("by 3 a DRAW of COLUMNS the node of its PLANE.")
    static void termII_chanceByThreeDrawsTheNode() {
        for (int craft = 0; craft < 3; craft++) {
            OrbitDesk x = three();
            int seed = seedFor(craft, 3);
            long third = next(next(next(seed)));
            x.seed(seed);
            x.chance(1);
            int drawn = (int) (third >> 6) % 9;
            due("node of p", x.plane(0, 0), craft == 1 ? 4 : drawn);
            due("node of q", x.plane(1, 0), craft == 1 ? drawn : 8);
            due("three draws", x.has(11), third);
        }
    }

    @Says("The last 20 can be undone.")
    static void termII_theLastTwentyCanBeUndone() {
        OrbitDesk x = desk(BOW);
        for (int phase = 1; phase <= 7; phase++) {
            x.phase(0, phase);
        }
        for (int reach = 1; reach <= 12; reach++) {
            x.reach(1, reach);
        }
        due("19 acts", x.has(10), 19);
        x.node(0, 1);
        due("20 acts", x.has(10), 20);
        x.node(0, 2);
        due("21 acts", x.has(10), 20);
        x.node(0, 3);
        due("22 acts", x.has(10), 20);
        for (int i = 0; i < 20; i++) {
            due("undo " + i, x.undo(), true);
        }
        due("the first two stay", x.craft(0, 1), 2);
        due("the others are undone: reach", x.craft(1, 2), 0);
        due("the others are undone: node", x.plane(0, 0), 0);
        due("no more", x.undo(), false);
    }

    @Says({"A DRAW of m: x (the seed) becomes (1103515245 x + 12345) mod 2 to the 31;", "floor(x / 64) mod m."})
    static void termII_draws() {
        // From 1: 1103527590 (17242618 by 64: craft 0 of 2), 377401575 (5896899: 3 of 4), 662824084 (10356626: 2 of 4).
        OrbitDesk x = desk(RING);
        x.chance(1);
        due("the seed", x.has(11), 662824084);
        due("node", x.plane(0, 0), 2);
        due("none is lost", x.has(5), 2);
        for (int seed : new int[] {0, 1, 63, 64, MAX, MAX - 1, 1 << 30}) {
            OrbitDesk y = three();
            y.seed(seed);
            y.chance(1);
            long two = next(next(seed));
            due("the seed from " + seed, y.has(11), (two >> 6) % 4 == 0 ? two : next(two));
        }
    }
}
