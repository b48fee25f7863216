/** Promises 28 to 43, sentence by sentence: what is tried, what is carried, what was noted. */
final class TriedEdges extends Checks {
    private static final int[] TICKS_OUT = {-1, 10000, MIN, MAX, 10001, -9999};
    /** Three ways a craft stays: a in column 0, b in column 2, so that u, v are below a, and v, w below b. */
    private static final String CHAIN = "grid 8 by 3 day 8;plane p node 0 tilt 0 turn 8;craft a in p phase 0 reach 1;"
        + "craft b in p phase 2 reach 1;site u at 0 1 from 0 to 8;site v at 1 1 from 0 to 8;site w at 3 1 from 0 to 8;";
    /** a sees u at tick 2 and v at 6 of 8, b sees v at 5 and w at 1. */
    private static final String SLOW = "grid 8 by 5 day 8;plane p node 0 tilt 2 turn 8;plane q node 1 tilt 2 turn 8;"
        + "craft a in p phase 0 reach 1;craft b in q phase 1 reach 1;site u at 7 4 from 0 to 8;"
        + "site v at 1 0 from 0 to 8;site w at 3 4 from 0 to 8;";
    private static final String TWINS = "grid 4 by 3 day 4;plane p node 0 tilt 0 turn 2;plane q node 0 tilt 0 turn 2;"
        + "craft a in p phase 0 reach 1;craft b in q phase 0 reach 1;";

    private TriedEdges() {
    }

    private static OrbitDesk without(String text, int... lost) {
        OrbitDesk x = desk(text);
        for (int craft : lost) {
            x.lose(craft);
        }
        return x;
    }

    @Says("BEST phase of a CRAFT (what 0), SCORE by it, as bits (1).")
    static void promise28_best() {
        OrbitDesk x = desk(RING.replace("phase 0", "phase 1"));
        int apart = desk(RING).score();
        due("best(0, 0)", x.best(0, 0), 0);
        due("best(0, 1)", x.best(0, 1), apart);
        due("best(1, 0)", x.best(1, 0), 0);
        due("best(1, 1)", x.best(1, 1), apart);
    }

    @Says("NONE when there is none such,")
    static void promise28_noneSuch() {
        OrbitDesk x = desk(RING);
        for (int craft : outside(2)) {
            due("best(" + craft + ", 0)", x.best(craft, 0), NONE);
            due("best(" + craft + ", 1)", x.best(craft, 1), NONE);
        }
        due("without a desk", new OrbitDesk().best(0, 0), NONE);
        due("without craft", desk("grid 4 by 3 day 2;").best(0, 0), NONE);
    }

    @Says("or for others.")
    static void promise28_others() {
        for (int what : outside(2)) {
            due("best(0, " + what + ")", desk(RING).best(0, what), NONE);
        }
    }

    @Says("EVEN phase of a PLANE (what 0), the WORST gap by it (1).")
    static void promise29_even() {
        OrbitDesk x = desk(RING.replace("phase 0", "phase 1"));
        due("together", x.worst(0), 3);
        due("even(0, 0)", x.even(0, 0), 0);
        due("even(0, 1): apart", x.even(0, 1), 1);
        due("of one alone", without(RING, 0).even(0, 1), 3);
    }

    @Says("NONE when none of its CRAFT is UP,")
    static void promise29_noneIsUp() {
        due("all lost", without(RING, 0, 1).even(0, 0), NONE);
        OrbitDesk x = without(TWINS, 0);
        due("all of p lost", x.even(0, 1), NONE);
        due("q has one", x.even(1, 1), 3);
        due("all of p lost, behind another trial", x.even(0, 1), NONE);
        due("all of p lost, behind another trial", x.even(0, 0), NONE);
        due("a plane without craft", desk(RING + "plane q node 0 tilt 0 turn 2;").even(1, 0), NONE);
    }

    @Says("there is none such,")
    static void promise29_noneSuch() {
        for (int plane : outside(1)) {
            due("even(" + plane + ", 0)", desk(RING).even(plane, 0), NONE);
            due("even(" + plane + ", 1)", desk(RING).even(plane, 1), NONE);
        }
        due("without a desk", new OrbitDesk().even(0, 0), NONE);
    }

    @Says("or for others.")
    static void promise29_others() {
        for (int what : outside(2)) {
            due("even(0, " + what + ")", desk(RING).even(0, what), NONE);
        }
    }

    @Says("CRITICAL (what 0), the WORST gap without it (1), SCORE without it, as bits (2).")
    static void promise30_critical() {
        OrbitDesk x = desk(RING);
        OrbitDesk y = without(RING, 0);
        due("critical(0)", x.critical(0), 0);
        due("critical(1)", x.critical(1), 3);
        due("critical(2)", x.critical(2), y.score());
        due("of the last one", y.critical(0), 1);
        due("then all is a gap", y.critical(1), 4);
        due("then SCORE is 0", y.critical(2), 0);
    }

    @Says("NONE when none is UP,")
    static void promise30_noneIsUp() {
        for (int what = 0; what < 3; what++) {
            due("all lost", without(RING, 0, 1).critical(what), NONE);
            due("without craft", desk("grid 4 by 3 day 2;").critical(what), NONE);
            due("without a desk", new OrbitDesk().critical(what), NONE);
        }
    }

    @Says("or for others.")
    static void promise30_others() {
        for (int what : outside(3)) {
            due("critical(" + what + ")", desk(RING).critical(what), NONE);
        }
    }

    @Says("RELIEF for a CRAFT (what 0), the WORST gap by it (1).")
    static void promise31_relief() {
        OrbitDesk x = without(RING + "craft c in p phase 1 reach 1;", 0);
        due("relief(0, 0)", x.relief(0, 0), 1);
        due("relief(0, 1)", x.relief(0, 1), 1);
        x.lose(1);
        due("relief(0, 0)", x.relief(0, 0), 2);
        due("relief(0, 1)", x.relief(0, 1), 3);
    }

    @Says("NONE when that is UP,")
    static void promise31_thatIsUp() {
        OrbitDesk x = without(RING, 1);
        due("relief(0, 0)", x.relief(0, 0), NONE);
        due("relief(0, 1)", x.relief(0, 1), NONE);
        due("relief(1, 0)", x.relief(1, 0), 0);
    }

    @Says("none is UP in its PLANE,")
    static void promise31_noneIsUpInItsPlane() {
        due("b is in q", without(TWINS, 0).relief(0, 0), NONE);
        due("b is in q", without(TWINS, 0).relief(0, 1), NONE);
        due("all lost", without(RING, 0, 1).relief(1, 0), NONE);
        OrbitDesk x = without(TWINS, 0);
        due("another trial", x.even(1, 1), 3);
        due("behind another trial", x.relief(0, 1), NONE);
        due("behind another trial", x.relief(0, 0), NONE);
    }

    @Says("there is none such,")
    static void promise31_noneSuch() {
        for (int craft : outside(2)) {
            due("relief(" + craft + ", 0)", without(RING, 0).relief(craft, 0), NONE);
        }
        due("without a desk", new OrbitDesk().relief(0, 0), NONE);
    }

    @Says("or for others.")
    static void promise31_others() {
        for (int what : outside(2)) {
            due("relief(0, " + what + ")", without(RING, 0).relief(0, what), NONE);
        }
    }

    @Says("BEST node of a PLANE, TRIED (what 0): by which SCORE is greatest, of like ones the least;")
    static void promise32_bestNode() {
        OrbitDesk x = desk(TWINS);
        // One column on is as good as two, as row 1 is seen whole by either.
        float most = -1f;
        int best = NONE;
        for (int node = 0; node < 4; node++) {
            x.node(0, node);
            if (Float.intBitsToFloat(x.score()) > most) {
                most = Float.intBitsToFloat(x.score());
                best = node;
            }
        }
        due("the least of the best", best, 1);
        due("bestNode(0, 0)", x.bestNode(0, 0), 1);
        due("nothing of it stays", x.plane(0, 0), 3);
        OrbitDesk y = desk(TWINS + "craft c in q phase 1 reach 2;");
        y.node(0, 2);
        y.lose(2);
        due("without what the lost one would see, nor what a sees now", y.bestNode(0, 1), Float.floatToIntBits(most));
        due("all are alike", without(TWINS, 0).bestNode(0, 0), 0);
        due("of a plane without craft", desk(RING + "plane q node 3 tilt 0 turn 2;").bestNode(1, 0), 0);
    }

    @Says("SCORE by it, as bits (1).")
    static void promise32_scoreByIt() {
        OrbitDesk x = desk(TWINS);
        int score = x.bestNode(0, 1);
        x.node(0, x.bestNode(0, 0));
        due("as it is then", x.score(), score);
        due("all are alike", without(TWINS, 0).bestNode(0, 1), without(TWINS, 0).score());
    }

    @Says("NONE when there is none such,")
    static void promise32_noneSuch() {
        for (int plane : outside(2)) {
            due("bestNode(" + plane + ", 0)", desk(TWINS).bestNode(plane, 0), NONE);
            due("bestNode(" + plane + ", 1)", desk(TWINS).bestNode(plane, 1), NONE);
        }
        due("without a desk", new OrbitDesk().bestNode(0, 0), NONE);
    }

    @Says("or for others.")
    static void promise32_others() {
        for (int what : outside(2)) {
            due("bestNode(0, " + what + ")", desk(TWINS).bestNode(0, what), NONE);
        }
    }

    @Says("The fewest CRAFT, as bits, of those that are UP, by which, all others being lost, the WORST gap is no more "
        + "than a number (0 and on; what 0;")
    static void promise33_fewest() {
        OrbitDesk x = desk(RING + "craft c in p phase 0 reach 2;");
        due("0: c sees all cells", x.fewest(0, 0), 4);
        due("1: c alone, though a and b are lesser bits", x.fewest(1, 0), 4);
        due("3: a alone", x.fewest(3, 0), 1);
        due("4: none at all", x.fewest(4, 0), 0);
        due("MAX: none at all", x.fewest(MAX, 0), 0);
        x.lose(2);
        due("1: a and b", x.fewest(1, 0), 3);
        x.lose(0);
        due("3: b, as a is lost", x.fewest(3, 0), 2);
        x.lose(1);
        due("4: none is up", x.fewest(4, 0), 0);
        due("1: all craft there are", desk(RING).fewest(1, 0), 3);
    }

    @Says("of like ones the least bits), how many (1).")
    static void promise33_ofLikeOnesTheLeastBits() {
        OrbitDesk x = desk(RING + "craft c in p phase 0 reach 1;craft d in p phase 1 reach 1;");
        due("a, b ahead of a, d and b, c", x.fewest(1, 0), 3);
        due("two", x.fewest(1, 1), 2);
        x.lose(0);
        due("b, c ahead of c, d", x.fewest(1, 0), 6);
        due("one: b", x.fewest(3, 0), 2);
        due("one", x.fewest(3, 1), 1);
        due("none", x.fewest(4, 1), 0);
    }

    @Says("NONE when not by all,")
    static void promise33_notByAll() {
        due("fewest(0, 0)", desk(RING).fewest(0, 0), NONE);
        due("fewest(0, 1)", desk(RING).fewest(0, 1), NONE);
        due("of one", without(RING, 0).fewest(2, 0), NONE);
        due("without craft", desk("grid 4 by 3 day 2;").fewest(1, 0), NONE);
    }

    @Says("it is below 0,")
    static void promise33_belowZero() {
        for (int gap : new int[] {-1, -4, MIN}) {
            due("fewest(" + gap + ", 0)", desk(RING).fewest(gap, 0), NONE);
            due("fewest(" + gap + ", 1)", desk(RING).fewest(gap, 1), NONE);
        }
    }

    @Says("without a desk,")
    static void promise33_withoutADesk() {
        due("fewest(4, 0)", new OrbitDesk().fewest(4, 0), NONE);
        due("fewest(MAX, 1)", new OrbitDesk().fewest(MAX, 1), NONE);
    }

    @Says("or for others.")
    static void promise33_others() {
        for (int what : outside(2)) {
            due("fewest(4, " + what + ")", desk(RING).fewest(4, what), NONE);
        }
    }

    @Says("How many TICKS of the CYCLE two CRAFT, lost or not, are above one cell;")
    static void promise34_meets() {
        due("never", desk(RING).meets(0, 1), 0);
        due("always, lost or not", without(TWINS, 0, 1).meets(0, 1), 4);
        due("the other first", without(TWINS, 0).meets(1, 0), 4);
        // Rows 0 1 2 1 0 -1 -2 -1 and 0 0 1 1 0 0 -1 -1 above the middle, in one column: 4 ticks.
        due("some", desk("grid 8 by 5 day 8;plane p node 0 tilt 2 turn 8;plane q node 0 tilt 1 turn 8;craft a in p "
            + "phase 0 reach 1;craft b in q phase 0 reach 0;").meets(0, 1), 4);
        // The same rows at columns 0 and 1.
        due("beside", desk("grid 8 by 5 day 8;plane p node 0 tilt 2 turn 8;plane q node 1 tilt 2 turn 8;craft a in p "
            + "phase 0 reach 1;craft b in q phase 0 reach 0;").meets(0, 1), 0);
    }

    @Says("NONE when they are one,")
    static void promise34_one() {
        due("meets(0, 0)", desk(RING).meets(0, 0), NONE);
        due("meets(1, 1)", desk(RING).meets(1, 1), NONE);
    }

    @Says("or there are none such.")
    static void promise34_noneSuch() {
        for (int craft : outside(2)) {
            due("meets(" + craft + ", 0)", desk(RING).meets(craft, 0), NONE);
            due("meets(0, " + craft + ")", desk(RING).meets(0, craft), NONE);
        }
        due("without a desk", new OrbitDesk().meets(0, 1), NONE);
    }

    @Says("The TICK of the CYCLE at which most cells (most true), fewest are SEEN,")
    static void promise35_mostAndFewest() {
        // 5 cells by a at 1 2 3 less one at its row 4: the bow has 6 6 5 6 6 6 5 6 cells.
        OrbitDesk x = desk(BOW);
        due("most", x.extreme(true, 0), 0);
        due("fewest", x.extreme(false, 0), 2);
        OrbitDesk y = desk(BOW.replace("phase 0", "phase 2"));
        due("most", y.extreme(true, 0), 1);
        due("fewest", y.extreme(false, 0), 0);
    }

    @Says("of like ones the first (what 0), how many (1).")
    static void promise35_ofLikeOnesTheFirst() {
        OrbitDesk x = desk(RING);
        due("all are alike", x.extreme(true, 0), 0);
        due("all are alike", x.extreme(false, 0), 0);
        due("most", desk(BOW).extreme(true, 1), 6);
        due("fewest", desk(BOW).extreme(false, 1), 5);
        OrbitDesk y = desk("grid 4 by 3 day 2;");
        due("without craft", y.extreme(true, 0), 0);
        due("without craft", y.extreme(true, 1), 0);
    }

    @Says("NONE for others,")
    static void promise35_others() {
        for (int what : outside(2)) {
            due("extreme(true, " + what + ")", desk(RING).extreme(true, what), NONE);
            due("extreme(false, " + what + ")", desk(RING).extreme(false, what), NONE);
        }
    }

    @Says("or without a desk.")
    static void promise35_withoutADesk() {
        for (int what = 0; what < 2; what++) {
            due("extreme(true, " + what + ")", new OrbitDesk().extreme(true, what), NONE);
            due("extreme(false, " + what + ")", new OrbitDesk().extreme(false, what), NONE);
        }
    }

    @Says("Of a cell through the CYCLE: 0 how many CRAFT SEE it at once at the most, 1 the first TICK at which so many "
        + "do, 2 at how many TICKS two or more do.")
    static void promise36_depth() {
        OrbitDesk x = desk(RING + "craft c in p phase 0 reach 0;");
        // (1, 1) is seen by a at 0 1 2, by b at 0 2 3, by c at 1.
        due("(1, 1)", x.depth(1, 1, 0), 2);
        due("(1, 1)", x.depth(1, 1, 1), 0);
        due("(1, 1)", x.depth(1, 1, 2), 3);
        x.reach(2, 1);
        due("by all", x.depth(1, 1, 0), 3);
        due("at 0", x.depth(1, 1, 1), 0);
        due("(0, 1) by all: a at 0 1 3, b at 1 2 3", x.depth(0, 1, 1), 1);
        due("two or more", x.depth(0, 1, 2), 3);
        due("(1, 0), by a and c at 1", x.depth(1, 0, 1), 1);
        OrbitDesk y = without(RING, 0, 1);
        due("none", y.depth(1, 1, 0), 0);
        due("the first tick of none", y.depth(1, 1, 1), 0);
        due("two or more", y.depth(1, 1, 2), 0);
    }

    @Says("NONE when there is none such,")
    static void promise36_noneSuch() {
        for (int what = 0; what < 3; what++) {
            for (int column : outside(4)) {
                due("depth(" + column + ", 0, " + what + ")", desk(RING).depth(column, 0, what), NONE);
            }
            for (int row : outside(3)) {
                due("depth(0, " + row + ", " + what + ")", desk(RING).depth(0, row, what), NONE);
            }
            due("without a desk", new OrbitDesk().depth(0, 0, what), NONE);
        }
    }

    @Says("or for others.")
    static void promise36_others() {
        for (int what : outside(3)) {
            due("depth(0, 0, " + what + ")", desk(RING).depth(0, 0, what), NONE);
        }
    }

    @Says("Of all two CRAFT that are UP, the one of less number first, those by whose loss together the WORST gap is "
        + "greatest,")
    static void promise37_couple() {
        OrbitDesk x = desk(RING + "craft c in p phase 1 reach 1;craft d in p phase 0 reach 1;"
            + "craft e in p phase 0 reach 1;");
        // Three are on a's side, so that only without b and c one side is left.
        due("couple(0)", x.couple(0), 1);
        due("couple(1)", x.couple(1), 2);
        due("couple(2)", x.couple(2), 3);
        x.lose(0);
        x.lose(1);
        x.lose(3);
        due("of those that are up", x.couple(0), 2);
        due("of those that are up", x.couple(1), 4);
        due("none is left", x.couple(2), 4);
    }

    @Says("of like ones the first (by the first one, then the other): 0, 1 which, 2 the WORST gap then.")
    static void promise37_ofLikeOnesTheFirst() {
        OrbitDesk x = desk(RING + "craft c in p phase 0 reach 1;craft d in p phase 1 reach 1;");
        due("a, c ahead of b, d", x.couple(0), 0);
        due("a, c ahead of b, d", x.couple(1), 2);
        due("the gap", x.couple(2), 3);
        OrbitDesk y = desk(BOW.replace("site s", "craft c in p phase 1 reach 0;site s"));
        due("all leave cells never seen", y.couple(0), 0);
        due("all leave cells never seen", y.couple(1), 1);
        due("all leave cells never seen", y.couple(2), 8);
        y.lose(0);
        due("not a, which is lost", y.couple(0), 1);
        due("not a, which is lost", y.couple(1), 2);
    }

    @Says("NONE when fewer than two are UP,")
    static void promise37_fewerThanTwo() {
        for (int what = 0; what < 3; what++) {
            due("one", without(RING, 0).couple(what), NONE);
            due("none", without(RING, 0, 1).couple(what), NONE);
            due("without craft", desk("grid 4 by 3 day 2;").couple(what), NONE);
            due("without a desk", new OrbitDesk().couple(what), NONE);
        }
    }

    @Says("or for others.")
    static void promise37_others() {
        for (int what : outside(3)) {
            due("couple(" + what + ")", desk(RING).couple(what), NONE);
        }
    }

    @Says("In how many TICKS, from one (0 .. 9999) on and with it, word comes from a SITE to another one:")
    static void promise38_carry() {
        OrbitDesk x = desk(SITES);
        // a sees x at 0 1 3 4 5 7, y at 5 6 7.
        due("from 0 on", x.carry(0, 0, 1), 6);
        due("from 5 on: at once", x.carry(5, 0, 1), 1);
        due("from 6 on: taken and given at 7", x.carry(6, 0, 1), 2);
        due("from 9998 on, as from 6", x.carry(9998, 0, 1), 2);
        due("from 9999 on, as from 7", x.carry(9999, 0, 1), 1);
        due("back", x.carry(0, 1, 0), 6);
        x.lose(0);
        due("a lost one carries nothing", x.carry(0, 0, 1), NONE);
    }

    @Says("each TICK first each CRAFT that SEES a SITE that has it takes it, then each SITE that is SEEN by a CRAFT "
        + "that has it has it;")
    static void promise38_firstCraftThenSites() {
        OrbitDesk x = desk(CHAIN);
        due("u to v, both below a", x.carry(0, 0, 1), 1);
        due("u to w: b takes it a tick behind v", x.carry(0, 0, 2), 2);
        due("w to u", x.carry(0, 2, 0), 2);
        due("a, b see v at once", x.carry(0, 1, 2), 1);
    }

    @Says("two CYCLES at most.")
    static void promise38_twoCyclesAtMost() {
        OrbitDesk x = desk(SLOW);
        due("two cycles", x.carry(10, 0, 2), 16);
        due("a tick more", x.carry(9, 0, 2), NONE);
        due("it would come", x.holders(9, 0, 17), 7);
    }

    @Says("0 from a SITE to itself;")
    static void promise38_toItself() {
        OrbitDesk x = desk(SITES);
        for (int site = 0; site < 3; site++) {
            due("carry(0, " + site + ", " + site + ")", x.carry(0, site, site), 0);
        }
        x.lose(0);
        due("without craft", x.carry(9999, 2, 2), 0);
    }

    @Says("NONE when not by then,")
    static void promise38_notByThen() {
        due("z is never seen", desk(SITES).carry(0, 0, 2), NONE);
        due("z is never seen", desk(SITES).carry(0, 2, 0), NONE);
        due("without craft", desk("grid 4 by 3 day 2;site s at 0 0 from 0 to 1;site t at 0 0 from 0 to 1;")
            .carry(0, 0, 1), NONE);
    }

    @Says("it can't be,")
    static void promise38_ticksThatCannotBe() {
        for (int tick : TICKS_OUT) {
            due("carry(" + tick + ", 0, 1)", desk(SITES).carry(tick, 0, 1), NONE);
        }
    }

    @Says("or there are none such.")
    static void promise38_noneSuch() {
        for (int site : outside(3)) {
            due("carry(0, " + site + ", 0)", desk(SITES).carry(0, site, 0), NONE);
            due("carry(0, 0, " + site + ")", desk(SITES).carry(0, 0, site), NONE);
            due("carry(0, " + site + ", " + site + ")", desk(SITES).carry(0, site, site), NONE);
        }
        due("without a desk", new OrbitDesk().carry(0, 0, 0), NONE);
    }

    @Says("SITES that have it then, as bits, n TICKS (0 .. 480) having been so from one (0 .. 9999) on;")
    static void promise39_holders() {
        OrbitDesk x = desk(CHAIN);
        due("0 ticks", x.holders(0, 0, 0), 1);
        due("0 ticks", x.holders(0, 2, 0), 4);
        due("1 tick", x.holders(0, 0, 1), 3);
        due("2 ticks", x.holders(0, 0, 2), 7);
        due("480 ticks", x.holders(9999, 0, 480), 7);
        OrbitDesk y = desk(SITES);
        due("5 ticks", y.holders(0, 0, 5), 1);
        due("6 ticks", y.holders(0, 0, 6), 3);
        due("from 9999 on, as from 7", y.holders(9999, 0, 1), 3);
        due("never z", y.holders(0, 0, 480), 3);
    }

    @Says("NONE when these can't be,")
    static void promise39_whatCannotBe() {
        for (int n : outside(481)) {
            due("holders(0, 0, " + n + ")", desk(CHAIN).holders(0, 0, n), NONE);
        }
        for (int tick : TICKS_OUT) {
            due("holders(" + tick + ", 0, 0)", desk(CHAIN).holders(tick, 0, 0), NONE);
        }
    }

    @Says("or there is none such.")
    static void promise39_noneSuch() {
        for (int site : outside(3)) {
            due("holders(0, " + site + ", 0)", desk(CHAIN).holders(0, site, 0), NONE);
        }
        due("without a desk", new OrbitDesk().holders(0, 0, 0), NONE);
    }

    @Says("The SITE from which word comes to most SITES (itself, too) in n TICKS (0 .. 480) from one (0 .. 9999) on "
        + "(what 0;")
    static void promise40_source() {
        OrbitDesk x = desk(CHAIN);
        // In one tick v's word comes to all, u's and w's to one more.
        due("source(0, 1, 0)", x.source(0, 1, 0), 1);
        due("source(0, 1, 1)", x.source(0, 1, 1), 3);
        due("source(9999, 1, 0)", x.source(9999, 1, 0), 1);
        due("itself, too", x.source(0, 0, 1), 1);
        due("480 ticks", x.source(9999, 480, 1), 3);
    }

    @Says("of like ones the first), to how many (1).")
    static void promise40_ofLikeOnesTheFirst() {
        OrbitDesk x = desk(CHAIN);
        due("no tick", x.source(0, 0, 0), 0);
        due("two ticks: all to all", x.source(0, 2, 0), 0);
        due("two ticks: all to all", x.source(0, 2, 1), 3);
        x.lose(0);
        due("v and w to one another: v", x.source(0, 1, 0), 1);
        due("v and w to one another", x.source(0, 1, 1), 2);
    }

    @Says("The SITE from which word comes to most SITES")
    static void promise40_sitesOfAFormerDeskAreNone() {
        OrbitDesk x = desk(CHAIN);
        feed(x, CHAIN.substring(0, CHAIN.indexOf("site v")));
        due("a desk with u alone", x.desk(), 5);
        due("source(0, 9, 0)", x.source(0, 9, 0), 0);
        due("source(0, 9, 1)", x.source(0, 9, 1), 1);
        due("holders(0, 0, 9)", x.holders(0, 0, 9), 1);
    }

    @Says("NONE without SITES,")
    static void promise40_withoutSites() {
        due("without sites", desk(RING).source(0, 0, 0), NONE);
        due("without sites", desk(RING).source(0, 0, 1), NONE);
        due("without a desk", new OrbitDesk().source(0, 0, 0), NONE);
    }

    @Says("when these can't be,")
    static void promise40_whatCannotBe() {
        for (int n : outside(481)) {
            due("source(0, " + n + ", 0)", desk(CHAIN).source(0, n, 0), NONE);
        }
        for (int tick : TICKS_OUT) {
            due("source(" + tick + ", 0, 0)", desk(CHAIN).source(tick, 0, 0), NONE);
        }
    }

    @Says("or for others.")
    static void promise40_others() {
        for (int what : outside(2)) {
            due("source(0, 0, " + what + ")", desk(CHAIN).source(0, 0, what), NONE);
        }
    }

    private static OrbitDesk withTape(String text, int... bytes) {
        OrbitDesk x = text.isEmpty() ? new OrbitDesk() : desk(text);
        feed(x, bytes);
        return x;
    }

    @Says("The tape (it goes) tells what is NOTED,")
    static void promise41_theTapeGoes() {
        OrbitDesk x = withTape(RING, 0, 0, 0, 0);
        due("note()", x.note(), 1);
        due("the tape is gone", x.end(1), false);
        due("noted", x.suspect(NONE), 1);
        feed(x, 0, 0, 0, 1, 1, 3, 2, 1);
        due("note()", x.note(), 2);
        due("in place of what was noted", x.has(9), 2);
        feed(x, 9, 9, 9, 9);
        x.note();
        due("refused, the tape is gone, too", x.end(1), false);
    }

    @Says("1 to 16 rows of four bytes (a TICK of the CYCLE, a COLUMN, a ROW, 1 or 0): how many rows;")
    static void promise41_oneToSixteenRows() {
        due("one row", withTape(RING, 3, 3, 2, 1).note(), 1);
        OrbitDesk x = withTape(RING, new int[64]);
        due("16 rows", x.note(), 16);
        due("has(9)", x.has(9), 16);
        due("tick 239 of 240", withTape("grid 4 by 3 day 80;plane p node 0 tilt 0 turn 48;", 239, 0, 0, 0).note(), 1);
        due("the last cell of all", withTape("grid 24 by 12 day 2;", 1, 23, 11, 0).note(), 1);
    }

    @Says("NONE, refused (5), all staying, when it is none such,")
    static void promise41_noneSuch() {
        int[][] wrongs = {{}, {0}, {0, 0, 0}, {0, 0, 0, 1, 0}, {0, 0, 0, 1, 0, 0, 0}, {4, 0, 0, 1}, {255, 0, 0, 1},
            {0, 4, 0, 1}, {0, 255, 0, 1}, {0, 0, 3, 1}, {0, 0, 255, 1}, {0, 0, 0, 2}, {0, 0, 0, 255},
            {0, 0, 0, 1, 4, 0, 0, 1}, {0, 0, 0, 1, 0, 0, 0, 2}, new int[68], new int[65], new int[80]};
        for (int i = 0; i < wrongs.length; i++) {
            int[] rows = wrongs[i];
            refuses("note() of wrong rows " + i, 5, () -> {
                OrbitDesk x = withTape(RING, 0, 0, 0, 0);
                x.note();
                x.lose(1);
                feed(x, rows);
                return x;
            }, x -> x.note() != NONE);
        }
        refuses("tick 240 of 240", 5, () -> withTape("grid 4 by 3 day 80;plane p node 0 tilt 0 turn 48;", 240, 0, 0, 0),
            x -> x.note() != NONE);
    }

    @Says("or without a desk.")
    static void promise41_withoutADesk() {
        refuses("note()", 5, () -> withTape("", 0, 0, 0, 0), x -> x.note() != NONE);
        refuses("note() of nothing", 5, OrbitDesk::new, x -> x.note() != NONE);
        OrbitDesk x = withTape("", 0, 0, 0, 0);
        x.note();
        due("the tape is gone", x.end(1), false);
    }

    @Says("SUSPECTS by what is NOTED (all, if nothing is): how many (k NONE), the k-th, rising.")
    static void promise42_suspects() {
        OrbitDesk x = desk(RING + "craft c in p phase 0 reach 0;");
        x.lose(1);
        // Nothing is noted: a, c, and 3 for none.
        int[] all = {0, 2, 3};
        due("suspect(NONE)", x.suspect(NONE), 3);
        for (int k = 0; k < 3; k++) {
            due("suspect(" + k + ")", x.suspect(k), all[k]);
        }
        feed(x, 0, 0, 0, 1);
        x.note();
        due("not a", x.suspect(NONE), 2);
        due("c", x.suspect(0), 2);
        due("none", x.suspect(1), 3);
        x.undo();
        due("what is noted stays by undo()", x.suspect(0), 1);
    }

    @Says("NONE when there is none such,")
    static void promise42_noneSuch() {
        for (int k : new int[] {3, 4, -2, MIN, MAX, 32}) {
            due("suspect(" + k + ")", desk(RING).suspect(k), NONE);
        }
        OrbitDesk x = withTape(RING, 0, 1, 0, 1);
        x.note();
        due("none is left", x.suspect(NONE), 0);
        due("none is left", x.suspect(0), NONE);
    }

    @Says("or without a desk.")
    static void promise42_withoutADesk() {
        due("suspect(NONE)", new OrbitDesk().suspect(NONE), NONE);
        due("suspect(0)", new OrbitDesk().suspect(0), NONE);
    }

    @Says("TELLING: the TICK (what 0), how many SUSPECTS are left at the most (1).")
    static void promise43_telling() {
        OrbitDesk x = desk("grid 8 by 3 day 8;plane p node 0 tilt 0 turn 8;plane q node 0 tilt 0 turn 4;"
            + "craft a in p phase 0 reach 0;craft b in q phase 0 reach 0;");
        due("tells(0)", x.tells(0), 1);
        due("tells(1)", x.tells(1), 2);
        due("by no tick", desk("grid 4 by 3 day 2;").tells(0), 0);
        due("by no tick", desk("grid 4 by 3 day 2;").tells(1), 1);
    }

    @Says("NONE without any,")
    static void promise43_withoutSuspects() {
        OrbitDesk x = withTape(RING, 0, 1, 0, 1);
        x.note();
        due("tells(0)", x.tells(0), NONE);
        due("tells(1)", x.tells(1), NONE);
    }

    @Says("for others,")
    static void promise43_others() {
        for (int what : outside(2)) {
            due("tells(" + what + ")", desk(RING).tells(what), NONE);
        }
    }

    @Says("or without a desk.")
    static void promise43_withoutADesk() {
        due("tells(0)", new OrbitDesk().tells(0), NONE);
        due("tells(1)", new OrbitDesk().tells(1), NONE);
    }
}
