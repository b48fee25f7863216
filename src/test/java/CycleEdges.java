/** Promises 15 to 27, sentence by sentence: passes, gaps, cover. */
final class CycleEdges extends Checks {
    private static final int[] TICKS_OUT = {-1, 10000, MIN, MAX, 10001, -9999};
    /** All cells are seen at ticks 0 and 4 of 8 alone, and no others together cover them. */
    private static final String SWING = "grid 4 by 5 day 4;plane p node 0 tilt 2 turn 8;craft a in p phase 0 reach 3;";

    private CycleEdges() {
    }

    private static OrbitDesk wide() {
        OrbitDesk x = desk(BOW);
        x.reach(0, 12);
        return x;
    }

    @Says("How many PASSES a cell has by a CRAFT (NONE: by whichever);")
    static void promise15_byOneOrByWhichever() {
        OrbitDesk x = desk(BOW);
        due("by a", x.passes(0, 2, 0), 2);
        due("by b", x.passes(0, 2, 1), 0);
        due("by whichever", x.passes(0, 2, NONE), 2);
        due("never seen", x.passes(2, 2, NONE), 0);
        OrbitDesk y = wide();
        due("at all ticks", y.passes(4, 2, 0), 1);
        due("by both", y.passes(4, 2, NONE), 3);
        y.lose(0);
        due("by a lost one", y.passes(4, 2, 0), 0);
        due("by those that are up", y.passes(4, 2, NONE), 2);
        due("without craft", desk("grid 4 by 3 day 2;").passes(0, 0, NONE), 0);
        OrbitDesk z = desk(eight("grid 8 by 5 day 8;plane p node 0 tilt 2 turn 8;", "phase 0 reach 1"));
        due("by eight", z.passes(0, 2, NONE), 16);
        due("by the eighth", z.passes(0, 2, 7), 2);
        due("never seen by eight", z.passes(4, 2, NONE), 0);
    }

    @Says("NONE when there is none such.")
    static void promise15_noneSuch() {
        OrbitDesk x = desk(BOW);
        for (int column : outside(8)) {
            due("passes(" + column + ", 0, NONE)", x.passes(column, 0, NONE), NONE);
        }
        for (int row : outside(5)) {
            due("passes(0, " + row + ", 0)", x.passes(0, row, 0), NONE);
        }
        for (int craft : new int[] {2, -2, MIN, MAX, 8}) {
            due("passes(0, 2, " + craft + ")", x.passes(0, 2, craft), NONE);
        }
        due("without craft", desk("grid 4 by 3 day 2;").passes(0, 0, 0), NONE);
        due("without a desk", new OrbitDesk().passes(0, 0, NONE), NONE);
    }

    @Says("Of the k-th of these PASSES: 0 the TICK at which it begins, 1 how many TICKS, 2 the CRAFT.")
    static void promise16_ofAPass() {
        OrbitDesk x = wide();
        int[][] all = {{0, 8, 0}, {0, 1, 1}, {4, 1, 1}};
        for (int what = 0; what < 3; what++) {
            for (int k = 0; k < 3; k++) {
                due("pass(4, 2, NONE, " + k + ", " + what + ")", x.pass(4, 2, NONE, k, what), all[k][what]);
            }
            due("pass(4, 2, 0, 0, " + what + ")", x.pass(4, 2, 0, 0, what), all[0][what]);
            due("pass(4, 2, 1, 1, " + what + ")", x.pass(4, 2, 1, 1, what), all[2][what]);
        }
    }

    @Says("NONE when there is none such,")
    static void promise16_noneSuch() {
        OrbitDesk x = wide();
        for (int k : outside(3)) {
            due("pass(4, 2, NONE, " + k + ", 0)", x.pass(4, 2, NONE, k, 0), NONE);
        }
        for (int k : outside(2)) {
            due("pass(4, 2, 1, " + k + ", 0)", x.pass(4, 2, 1, k, 0), NONE);
        }
        due("never seen by b", x.pass(0, 2, 1, 0, 0), NONE);
        for (int column : outside(8)) {
            due("pass(" + column + ", 0, NONE, 0, 0)", x.pass(column, 0, NONE, 0, 0), NONE);
        }
        for (int row : outside(5)) {
            due("pass(0, " + row + ", 0, 0, 0)", x.pass(0, row, 0, 0, 0), NONE);
        }
        for (int craft : new int[] {2, -2, MIN, MAX, 8}) {
            due("pass(4, 2, " + craft + ", 0, 0)", x.pass(4, 2, craft, 0, 0), NONE);
        }
        due("without a desk", new OrbitDesk().pass(0, 0, NONE, 0, 0), NONE);
    }

    @Says("or for others.")
    static void promise16_others() {
        for (int what : outside(3)) {
            due("pass(4, 2, 0, 0, " + what + ")", wide().pass(4, 2, 0, 0, what), NONE);
        }
    }

    @Says("How many GAPS a cell has;")
    static void promise17_howMany() {
        due("two", desk(BOW).gaps(1, 3), 2);
        due("one, over the end", desk(ALONE).gaps(1, 0), 1);
        due("never seen: one", desk(BOW).gaps(2, 2), 1);
        due("always seen: none", wide().gaps(2, 2), 0);
        due("without craft: one", desk("grid 4 by 3 day 2;").gaps(0, 0), 1);
    }

    @Says("NONE when there is none such.")
    static void promise17_noneSuch() {
        OrbitDesk x = desk(BOW);
        for (int column : outside(8)) {
            due("gaps(" + column + ", 0)", x.gaps(column, 0), NONE);
        }
        for (int row : outside(5)) {
            due("gaps(0, " + row + ")", x.gaps(0, row), NONE);
        }
        due("without a desk", new OrbitDesk().gaps(0, 0), NONE);
    }

    @Says("Of the k-th GAP of a cell: 0 the TICK at which it begins, 1 how many TICKS.")
    static void promise18_ofAGap() {
        OrbitDesk x = desk(BOW);
        int[][] due = {{2, 1}, {4, 5}};
        for (int k = 0; k < 2; k++) {
            for (int what = 0; what < 2; what++) {
                due("gap(1, 3, " + k + ", " + what + ")", x.gap(1, 3, k, what), due[k][what]);
            }
        }
    }

    @Says("NONE when there is none such,")
    static void promise18_noneSuch() {
        OrbitDesk x = desk(BOW);
        for (int k : outside(2)) {
            due("gap(1, 3, " + k + ", 0)", x.gap(1, 3, k, 0), NONE);
        }
        for (int column : outside(8)) {
            due("gap(" + column + ", 0, 0, 0)", x.gap(column, 0, 0, 0), NONE);
        }
        for (int row : outside(5)) {
            due("gap(0, " + row + ", 0, 0)", x.gap(0, row, 0, 0), NONE);
        }
        due("always seen", wide().gap(2, 2, 0, 0), NONE);
        due("without a desk", new OrbitDesk().gap(0, 0, 0, 0), NONE);
    }

    @Says("or for others.")
    static void promise18_others() {
        for (int what : outside(2)) {
            due("gap(1, 3, 0, " + what + ")", desk(BOW).gap(1, 3, 0, what), NONE);
        }
    }

    @Says("The greatest GAP of a cell (0 without any);")
    static void promise19_zeroWithoutAny() {
        due("without any", wide().greatest(2, 2), 0);
        due("over the end", desk(BOW).greatest(1, 3), 5);
        due("never seen: the cycle", desk(BOW).greatest(2, 2), 8);
        due("of two like ones", desk(BOW).greatest(4, 2), 3);
    }

    @Says("NONE when there is none such.")
    static void promise19_noneSuch() {
        OrbitDesk x = desk(BOW);
        for (int column : outside(8)) {
            due("greatest(" + column + ", 0)", x.greatest(column, 0), NONE);
        }
        for (int row : outside(5)) {
            due("greatest(0, " + row + ")", x.greatest(0, row), NONE);
        }
        due("without a desk", new OrbitDesk().greatest(0, 0), NONE);
    }

    @Says("The mean GAP of a cell: the TICKS of all by how many, a double, as bits (doubleToLongBits);")
    static void promise20_meanAsBits() {
        due("6 by 2", desk(BOW).mean(1, 3), Double.doubleToLongBits(3.0));
        due("8 by 1", desk(BOW).mean(2, 2), Double.doubleToLongBits(8.0));
        due("2 by 2", desk(BOW).mean(0, 2), Double.doubleToLongBits(1.0));
        // Above column 0 at ticks 0, 3 and 5 of 8: gaps of 2, 1, 2.
        OrbitDesk x = desk("grid 8 by 3 day 4;plane p node 0 tilt 0 turn 8;craft a in p phase 0 reach 0;"
            + "craft b in p phase 3 reach 0;craft c in p phase 5 reach 0;");
        due("5 by 3", x.mean(0, 1), Double.doubleToLongBits(5.0 / 3.0));
    }

    @Says("-1 without any,")
    static void promise20_withoutAny() {
        due("without any", wide().mean(2, 2), -1L);
    }

    @Says("or when there is none such.")
    static void promise20_noneSuch() {
        OrbitDesk x = desk(BOW);
        for (int column : outside(8)) {
            due("mean(" + column + ", 0)", x.mean(column, 0), -1L);
        }
        for (int row : outside(5)) {
            due("mean(0, " + row + ")", x.mean(0, row), -1L);
        }
        due("without a desk", new OrbitDesk().mean(0, 0), -1L);
    }

    @Says("How many cells are SEEN at a TICK (0 .. 9999);")
    static void promise21_howMany() {
        OrbitDesk x = desk(BOW);
        due("at 0", x.covered(0), 6);
        due("at 2", x.covered(2), 5);
        due("at 9998, as at 6", x.covered(9998), 5);
        due("at 9999, as at 7", x.covered(9999), 6);
        x.lose(0);
        x.lose(1);
        due("none", x.covered(0), 0);
        due("all", wide().covered(0), 40);
        String large = " by 12 day 2;plane p node 0 tilt 0 turn 2;craft a in p phase 0 reach 12;";
        due("all of 23 by 12", desk("grid 23" + large).covered(0), 276);
        due("all of 24 by 12 but (12, 5), 12 columns and a row away", desk("grid 24" + large).covered(0), 287);
    }

    @Says("NONE when it can't be,")
    static void promise21_ticksThatCannotBe() {
        for (int tick : TICKS_OUT) {
            due("covered(" + tick + ")", desk(BOW).covered(tick), NONE);
        }
    }

    @Says("or without a desk.")
    static void promise21_withoutADesk() {
        due("covered(0)", new OrbitDesk().covered(0), NONE);
    }

    @Says("COVER at a TICK (0 .. 9999), as bits (floatToIntBits);")
    static void promise22_asBits() {
        OrbitDesk x = desk(BOW);
        float three = 3f / 152f;
        float four = 4f / 152f;
        due("at 2", x.cover(2), sum(three, four, three, three, three));
        due("at 9998, as at 6", x.cover(9998), x.cover(6));
        due("at 9999, as at 7", x.cover(9999), x.cover(7));
        x.lose(0);
        x.lose(1);
        due("none", x.cover(0), 0);
    }

    @Says("NONE when it can't be,")
    static void promise22_ticksThatCannotBe() {
        for (int tick : TICKS_OUT) {
            due("cover(" + tick + ")", desk(BOW).cover(tick), NONE);
        }
    }

    @Says("or without a desk.")
    static void promise22_withoutADesk() {
        due("cover(0)", new OrbitDesk().cover(0), NONE);
    }

    @Says("SCORE, as bits (floatToIntBits);")
    static void promise23_asBits() {
        OrbitDesk x = desk(RING);
        float two = 2f / 28f;
        float three = 3f / 28f;
        float cover = total(two, two, three, three, three, three, two, two) / 4f;
        due("score()", x.score(), sum(cover, cover, cover, cover));
        due("without craft", desk("grid 4 by 3 day 2;").score(), 0);
    }

    @Says("NONE without a desk.")
    static void promise23_withoutADesk() {
        due("score()", new OrbitDesk().score(), NONE);
    }

    @Says("The WORST gap (what 0), the COLUMN (1), the ROW (2) of the first cell that has it, ROW by ROW.")
    static void promise24_theFirstCellRowByRow() {
        // Column 0 is seen in rows 0, 2, 3; (0, 1) would be the first column by column.
        OrbitDesk x = desk("grid 4 by 5 day 5;plane p node 0 tilt 2 turn 5;craft a in p phase 0 reach 0;");
        due("worst(0)", x.worst(0), 5);
        due("worst(1)", x.worst(1), 1);
        due("worst(2)", x.worst(2), 0);
        OrbitDesk y = wide();
        due("without gaps", y.worst(0), 0);
        due("without gaps: the first cell", y.worst(1), 0);
        due("without gaps: the first cell", y.worst(2), 0);
        // At rows 2 3 4 3 2 1 0 1 with reach 3 of 4 columns, row 4 is seen ahead of row 0 in the cycle.
        OrbitDesk z = desk(SWING);
        for (int row = z.worst(2) - 1; row >= 0; row--) {
            for (int column = 0; column < 4; column++) {
                due("less ahead", z.greatest(column, row) < z.worst(0), true);
            }
        }
        due("it has it", z.greatest(z.worst(1), z.worst(2)), z.worst(0));
    }

    @Says("NONE for others,")
    static void promise24_others() {
        for (int what : outside(3)) {
            due("worst(" + what + ")", desk(BOW).worst(what), NONE);
        }
    }

    @Says("or without a desk.")
    static void promise24_withoutADesk() {
        for (int what = 0; what < 3; what++) {
            due("worst(" + what + ")", new OrbitDesk().worst(what), NONE);
        }
    }

    @Says("How many cells are never SEEN;")
    static void promise25_never() {
        due("the bow", desk(BOW).never(), 20);
        due("the ring", desk(RING).never(), 0);
        due("without craft", desk("grid 24 by 12 day 2;").never(), 288);
        OrbitDesk x = desk(RING);
        x.lose(0);
        x.lose(1);
        due("all lost", x.never(), 12);
        // With reach 0 each column of row 1 is seen at one tick, column 0 at tick 0, column 3 at tick 3.
        due("seen once", desk(ALONE.replace("reach 1", "reach 0")).never(), 8);
    }

    @Says("NONE without a desk.")
    static void promise25_withoutADesk() {
        due("never()", new OrbitDesk().never(), NONE);
    }

    @Says("In how many TICKS, from one (0 .. 9999) on and with it, all cells have been SEEN;")
    static void promise26_fromATickOnAndWithIt() {
        OrbitDesk x = desk(SWING);
        int[] ticks = {1, 4, 3, 2, 1, 4, 3, 2};
        for (int t = 0; t < 16; t++) {
            due("soon(" + t + ")", x.soon(t), ticks[t % 8]);
        }
        due("soon(9999), as from 7 on", x.soon(9999), 2);
        for (int t = 0; t < 4; t++) {
            due("all the cycle, the column ahead being the last", desk(ALONE).soon(t), 4);
        }
    }

    @Says("NONE when some never are,")
    static void promise26_someNeverAre() {
        due("the bow", desk(BOW).soon(0), NONE);
        due("without craft", desk("grid 4 by 3 day 2;").soon(0), NONE);
        OrbitDesk x = desk(ALONE);
        x.lose(0);
        due("all lost", x.soon(0), NONE);
    }

    @Says("it can't be,")
    static void promise26_ticksThatCannotBe() {
        for (int tick : TICKS_OUT) {
            due("soon(" + tick + ")", desk(ALONE).soon(tick), NONE);
        }
    }

    @Says("or without a desk.")
    static void promise26_withoutADesk() {
        due("soon(0)", new OrbitDesk().soon(0), NONE);
    }

    @Says("How many TICKS behind one (0 .. 9999; 0: at it) a cell is SEEN next;")
    static void promise27_howManyTicksBehind() {
        OrbitDesk x = desk(ALONE);
        int[] until = {0, 3, 2, 1};
        for (int t = 0; t < 8; t++) {
            due("next(" + t + ", 0, 0)", x.next(t, 0, 0), until[t % 4]);
        }
        due("next(9999, 0, 0), round the end", x.next(9999, 0, 0), 1);
        due("next(9999, 3, 0), at it", x.next(9999, 3, 0), 0);
    }

    @Says("NONE when never,")
    static void promise27_never() {
        due("never", desk(BOW).next(0, 2, 2), NONE);
        due("without craft", desk("grid 4 by 3 day 2;").next(0, 0, 0), NONE);
    }

    @Says("or there is none such.")
    static void promise27_noneSuch() {
        OrbitDesk x = wide();
        for (int tick : TICKS_OUT) {
            due("next(" + tick + ", 0, 0)", x.next(tick, 0, 0), NONE);
        }
        for (int column : outside(8)) {
            due("next(0, " + column + ", 0)", x.next(0, column, 0), NONE);
        }
        for (int row : outside(5)) {
            due("next(0, 0, " + row + ")", x.next(0, 0, row), NONE);
        }
        due("without a desk", new OrbitDesk().next(0, 0, 0), NONE);
    }
}
