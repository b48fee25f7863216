/** Term III, sentence by sentence: cover and score in floats, what is tried, sites' hours, what is noted, images. */
final class TermThreeTests extends Checks {
    /** Here the order of the sums, and each rounding, shows in the last digits of COVER at tick 0. */
    private static final String ROUNDED = "grid 9 by 6 day 8;plane p node 0 tilt 3 turn 8;"
        + "craft a in p phase 7 reach 4;";

    private TermThreeTests() {
    }

    private static float share(OrbitDesk x, int row) {
        return (float) x.width(row) / (float) x.has(8);
    }

    private static float coverOf(OrbitDesk x, int tick, boolean rising) {
        float sum = 0f;
        int rows = x.has(1);
        for (int i = 0; i < rows; i++) {
            int row = rising ? i : rows - 1 - i;
            for (int column = 0; column < x.has(0); column++) {
                if (x.seen(tick, column, row) > 0) {
                    sum = sum + share(x, row);
                }
            }
        }
        return sum;
    }

    @Says("FLOATS have 32 bits, each quotient, each sum rounded by itself, whole numbers being FLOATS first.")
    static void termIII_eachSumIsRoundedByItself() {
        OrbitDesk x = desk(ROUNDED);
        int weight = 0;
        float byRows = 0f;
        for (int row = 0; row < 6; row++) {
            int cells = 0;
            for (int column = 0; column < 9; column++) {
                cells += x.seen(0, column, row) > 0 ? 1 : 0;
            }
            weight += cells * x.width(row);
            byRows += cells * share(x, row);
        }
        due("cover(0)", x.cover(0), Float.floatToIntBits(coverOf(x, 0, true)));
        due("it is not one quotient", x.cover(0) == Float.floatToIntBits((float) weight / (float) x.has(8)), false);
        due("it is no sum of products", x.cover(0) == Float.floatToIntBits(byRows), false);
    }

    @Says("COVER at a TICK is a FLOAT: 0, and for each cell that is SEEN, ROW by ROW from 0 on, in a ROW COLUMN by "
        + "COLUMN, its WIDTH by ALL more,")
    static void termIII_coverGoesRowByRow() {
        OrbitDesk x = desk(ROUNDED);
        due("cover(0)", x.cover(0), Float.floatToIntBits(coverOf(x, 0, true)));
        due("the other way round differs", x.cover(0) == Float.floatToIntBits(coverOf(x, 0, false)), false);
        OrbitDesk y = desk(RING);
        float two = 2f / 28f;
        float three = 3f / 28f;
        due("the ring", y.cover(0), sum(two, two, three, three, three, three, two, two));
        y.lose(0);
        y.lose(1);
        due("0", y.cover(0), 0);
    }

    @Says("ALL being the WIDTHS of all cells together.")
    static void termIII_all() {
        due("4 by 3", desk("grid 4 by 3 day 2;").has(8), 4 * 7);
        due("5 by 4", desk("grid 5 by 4 day 2;").has(8), 5 * 14);
        due("24 by 12", desk("grid 24 by 12 day 2;").has(8), 24 * 2 * (7 + 8 + 9 + 10 + 11 + 12));
        OrbitDesk x = desk(ALONE);
        x.reach(0, 0);
        due("one cell of 28", x.cover(0), Float.floatToIntBits(3f / 28f));
    }

    @Says("SCORE is a FLOAT: 0, and for each TICK of the CYCLE, from 0 on, COVER by the number of these TICKS more.")
    static void termIII_score() {
        OrbitDesk x = desk("grid 5 by 4 day 6;plane p node 0 tilt 1 turn 4;craft a in p phase 1 reach 3;");
        float score = 0f;
        float covers = 0f;
        float back = 0f;
        for (int t = 0; t < 12; t++) {
            score = score + Float.intBitsToFloat(x.cover(t)) / 12f;
            covers = covers + Float.intBitsToFloat(x.cover(t));
            back = back + Float.intBitsToFloat(x.cover(11 - t)) / 12f;
        }
        due("score()", x.score(), Float.floatToIntBits(score));
        due("it is not one quotient", x.score() == Float.floatToIntBits(covers / 12f), false);
        due("the other way round differs", x.score() == Float.floatToIntBits(back), false);
        x.lose(0);
        due("0", x.score(), 0);
    }

    @Says("The WORST gap is the greatest GAP of all cells (0 without any).")
    static void termIII_worst() {
        OrbitDesk x = desk(BOW);
        x.reach(0, 3);
        int greatest = 0;
        for (int column = 0; column < 8; column++) {
            for (int row = 0; row < 5; row++) {
                greatest = Math.max(greatest, x.greatest(column, row));
            }
        }
        due("the greatest of all", x.worst(0), greatest);
        due("some cell has none", x.greatest(0, 2), 0);
        x.reach(0, 12);
        due("without any", x.worst(0), 0);
        OrbitDesk y = desk(ALONE);
        y.lose(0);
        due("none is up", y.worst(0), 4);
    }

    private static void worstIs(String text, int worst) {
        OrbitDesk x = desk(text);
        int greatest = 0;
        for (int column = 0; column < x.has(0); column++) {
            for (int row = 0; row < x.has(1); row++) {
                greatest = Math.max(greatest, x.greatest(column, row));
            }
        }
        due("the greatest of all", greatest, worst);
        due("worst(0)", x.worst(0), worst);
        due("fewest(" + worst + ", 0)", x.fewest(worst, 0), 1);
        due("fewest(" + (worst - 1) + ", 0)", x.fewest(worst - 1, 0), NONE);
    }

    @Says("The WORST gap is the greatest GAP of all cells")
    static void termIII_worstWhereverItIs() {
        // In row 0 alone.
        worstIs("grid 5 by 4 day 4;plane p node 4 tilt 2 turn 8;craft a in p phase 0 reach 3;", 3);
        // Over the end of the cycle alone: two cells, five cells, two of row 0.
        worstIs("grid 4 by 3 day 3;plane p node 3 tilt 1 turn 6;craft a in p phase 3 reach 1;", 5);
        worstIs("grid 5 by 4 day 2;plane p node 0 tilt 2 turn 6;craft a in p phase 2 reach 2;", 4);
        worstIs("grid 4 by 4 day 4;plane p node 0 tilt 1 turn 8;craft a in p phase 3 reach 3;", 2);
        worstIs(ALONE, 3);
    }

    @Says("TRIED is what would be; nothing of it stays.")
    static void termIII_nothingOfWhatIsTriedStays() {
        for (int which = 0; which < 14; which++) {
            OrbitDesk x = many();
            String stood = state(x);
            String seen = sights(x);
            tried(x, which);
            due("all is as it was behind " + which, state(x).equals(stood), true);
            tried(x, which);
            due("all is seen as it was behind " + which, sights(x).equals(seen), true);
            due("one act", x.has(10), 1);
            for (int what = 0; what < 6; what++) {
                due("status(" + what + ")", x.status(what), 0);
            }
        }
    }

    /** Two planes; c, in p as a and b are, is lost. */
    private static OrbitDesk many() {
        OrbitDesk x = desk("grid 6 by 5 day 6;plane p node 4 tilt 2 turn 6;plane q node 1 tilt 1 turn 3;"
            + "craft a in p phase 1 reach 1;craft b in p phase 2 reach 2;craft c in p phase 4 reach 3;"
            + "craft d in q phase 1 reach 2;site s at 0 2 from 0 to 6;site t at 3 3 from 0 to 6;");
        x.lose(2);
        return x;
    }

    @Says("nothing of it stays.")
    static void termIII_nothingOfOneTrialIsInTheNext() {
        for (int one = 0; one < 14; one++) {
            for (int next = 0; next < 14; next++) {
                OrbitDesk x = many();
                OrbitDesk y = many();
                tried(x, one);
                due("trial " + next + " behind " + one, tried(x, next), tried(y, next));
            }
        }
        for (int one = 0; one < 14; one++) {
            OrbitDesk x = many();
            OrbitDesk y = many();
            tried(x, one);
            x.lose(1);
            y.lose(1);
            due("what is seen, b being lost behind " + one, sights(x).equals(sights(y)), true);
        }
    }

    @Says("BEST phase of a CRAFT, TRIED whether it is UP or not (as it is):")
    static void termIII_bestOfALostCraft() {
        OrbitDesk x = desk(RING);
        x.phase(0, 1);
        due("up: apart from b", x.best(0, 0), 0);
        x.lose(0);
        due("lost: all are alike", x.best(0, 0), 0);
        due("lost: SCORE by b alone", x.best(0, 1), x.score());
        x.phase(0, 0);
        x.phase(1, 0);
        due("lost, whatever its phase", x.best(0, 0), 0);
        x.find(0);
        due("up: apart from b", x.best(0, 0), 1);
    }

    @Says("by which SCORE is greatest, of like ones the least. EVEN")
    static void termIII_bestByScoreThenTheLeast() {
        OrbitDesk x = desk("grid 8 by 5 day 6;plane p node 0 tilt 2 turn 6;plane q node 3 tilt 1 turn 3;"
            + "craft a in p phase 0 reach 2;craft b in q phase 1 reach 2;");
        float most = -1f;
        int best = NONE;
        for (int phase = 0; phase < 6; phase++) {
            x.phase(0, phase);
            float score = Float.intBitsToFloat(x.score());
            if (score > most) {
                most = score;
                best = phase;
            }
        }
        due("BEST phase", x.best(0, 0), best);
        due("its SCORE", x.best(0, 1), Float.floatToIntBits(most));
        OrbitDesk y = desk(RING);
        due("a: 0 is apart from b", y.best(0, 0), 0);
        due("b: 1 is apart from a", y.best(1, 0), 1);
        OrbitDesk z = desk(ALONE);
        z.phase(0, 1);
        due("of like ones the least", z.best(0, 0), 0);
    }

    /** The choice of even() by what spread() brings, phase by phase. */
    private static void even(String text, int choice) {
        OrbitDesk x = desk(text);
        int turn = x.plane(0, 2);
        int best = NONE;
        int least = 0;
        float most = 0f;
        for (int phase = 0; phase < turn; phase++) {
            x.spread(0, phase);
            float score = Float.intBitsToFloat(x.score());
            if (best == NONE || x.worst(0) < least || x.worst(0) == least && score > most) {
                best = phase;
                least = x.worst(0);
                most = score;
            }
            x.undo();
        }
        due("the choice is the one meant", best, choice);
        due("even(0, 0)", x.even(0, 0), choice);
        due("even(0, 1)", x.even(0, 1), least);
    }

    @Says("EVEN phase of a PLANE: from which, SPREAD, the WORST gap is least,")
    static void termIII_evenByTheLeastGap() {
        // WORST gaps 6 5, SCORES .80 .79.
        even("grid 5 by 5 day 6;plane p node 4 tilt 2 turn 2;plane q node 1 tilt 0 turn 6;craft a in q phase 1 reach 2;"
            + "craft b in p phase 0 reach 2;", 1);
    }

    @Says("of like ones by which SCORE is greatest, then the least.")
    static void termIII_evenOfLikeOnesByScoreThenTheLeast() {
        // WORST gaps 1 2 1, SCORES .964 .946 .982.
        even("grid 8 by 3 day 6;plane p node 3 tilt 0 turn 3;plane q node 0 tilt 1 turn 3;craft a in p phase 1 reach 3;"
            + "craft b in q phase 2 reach 1;", 2);
        // WORST gaps 5 5 5, SCORES .46 .5 .5.
        even("grid 4 by 3 day 2;plane p node 1 tilt 0 turn 3;plane q node 0 tilt 0 turn 6;craft a in q phase 1 reach 0;"
            + "craft b in p phase 1 reach 1;", 1);
        // All phases are alike.
        even(ALONE.replace("phase 0", "phase 1"), 0);
        // Asked first of all, it goes by the craft of the other planes, too.
        due("the gap", desk(ALONE + "plane q node 0 tilt 0 turn 2;craft b in q phase 0 reach 1;").even(0, 1), 1);
    }

    /** The choice of critical() by what lose() brings, craft by craft. */
    private static void critical(String text, int choice) {
        OrbitDesk x = desk(text);
        int best = NONE;
        int most = 0;
        float least = 0f;
        for (int craft = 0; craft < x.has(4); craft++) {
            x.lose(craft);
            float score = Float.intBitsToFloat(x.score());
            if (best == NONE || x.worst(0) > most || x.worst(0) == most && score < least) {
                best = craft;
                most = x.worst(0);
                least = score;
            }
            x.undo();
        }
        due("the choice is the one meant", best, choice);
        due("critical(0)", x.critical(0), choice);
        due("critical(1)", x.critical(1), most);
        due("critical(2)", x.critical(2), Float.floatToIntBits(least));
    }

    @Says("CRITICAL is the CRAFT of those that are UP by whose loss the WORST gap is greatest,")
    static void termIII_criticalByTheGreatestGap() {
        // WORST gaps 3 7, SCORES .50 .62.
        critical("grid 6 by 5 day 8;plane p node 5 tilt 1 turn 2;plane q node 4 tilt 2 turn 4;"
            + "craft a in p phase 0 reach 2;craft b in q phase 1 reach 2;", 1);
        critical("grid 6 by 5 day 8;plane p node 5 tilt 1 turn 2;plane q node 4 tilt 2 turn 4;"
            + "craft b in q phase 1 reach 2;craft a in p phase 0 reach 2;", 0);
        OrbitDesk x = desk(RING);
        x.lose(0);
        due("of those that are up", x.critical(0), 1);
        due("none is left then", x.critical(1), 4);
    }

    @Says("of like ones by which SCORE is least, then the first.")
    static void termIII_criticalOfLikeOnesByScoreThenTheFirst() {
        // WORST gaps 1 1, SCORES .95 .63.
        critical("grid 8 by 3 day 8;plane p node 3 tilt 0 turn 2;craft a in p phase 1 reach 2;"
            + "craft b in p phase 0 reach 3;", 1);
        // WORST gaps 6 6 6, SCORES .66 .5 .5.
        critical("grid 8 by 4 day 6;plane p node 6 tilt 1 turn 3;craft a in p phase 1 reach 1;"
            + "craft b in p phase 0 reach 2;craft c in p phase 2 reach 2;", 1);
        // All are alike.
        critical(RING, 0);
    }

    /** The choice of relief() by what phase() brings, craft by craft. */
    private static void relief(String text, int lost, int choice) {
        OrbitDesk x = desk(text);
        x.lose(lost);
        int best = NONE;
        int least = 0;
        float most = 0f;
        for (int craft = 0; craft < x.has(4); craft++) {
            if (craft != lost && x.craft(craft, 0) == x.craft(lost, 0)) {
                boolean changed = x.phase(craft, x.craft(lost, 1));
                float score = Float.intBitsToFloat(x.score());
                if (best == NONE || x.worst(0) < least || x.worst(0) == least && score > most) {
                    best = craft;
                    least = x.worst(0);
                    most = score;
                }
                if (changed) {
                    x.undo();
                }
            }
        }
        due("the choice is the one meant", best, choice);
        due("relief(" + lost + ", 0)", x.relief(lost, 0), choice);
        due("relief(" + lost + ", 1)", x.relief(lost, 1), least);
    }

    @Says({"RELIEF for a CRAFT that is lost is the one of those that are UP in its PLANE by which,",
        "with the phase of the lost one, the WORST gap is least,"})
    static void termIII_reliefByTheLeastGap() {
        // WORST gaps of a and c 6 4, SCORES .81 .80.
        relief("grid 5 by 5 day 2;plane p node 0 tilt 0 turn 6;craft a in p phase 5 reach 2;"
            + "craft b in p phase 0 reach 1;craft c in p phase 2 reach 2;", 1, 2);
        OrbitDesk x = desk("grid 8 by 3 day 8;plane p node 0 tilt 0 turn 8;plane q node 0 tilt 0 turn 8;"
            + "craft a in q phase 0 reach 3;craft b in p phase 2 reach 1;craft c in p phase 4 reach 1;");
        x.lose(2);
        due("not one of another plane", x.relief(2, 0), 1);
        x.find(2);
        x.lose(1);
        due("nor a lost one", x.relief(1, 0), 2);
    }

    @Says("of like ones by which SCORE is greatest, then the first.")
    static void termIII_reliefOfLikeOnesByScoreThenTheFirst() {
        // WORST gaps of a and b 6 6, SCORES .05 .1.
        relief("grid 5 by 4 day 2;plane p node 2 tilt 2 turn 6;craft a in p phase 5 reach 0;"
            + "craft b in p phase 2 reach 0;craft c in p phase 2 reach 3;", 2, 1);
        // b and c bring no gap and all cells at all ticks.
        relief("grid 6 by 5 day 2;plane p node 1 tilt 0 turn 8;craft a in p phase 6 reach 1;"
            + "craft b in p phase 0 reach 3;craft c in p phase 3 reach 0;", 0, 1);
        relief(RING + "craft c in p phase 1 reach 1;", 0, 1);
    }

    /** How many passes a site at (0, 2) has; craft a sees it at ticks 3 4 5 and 7 0 1. */
    private static void siteHas(int from, int to, int passes) {
        OrbitDesk x = desk("grid 8 by 5 day 8;plane p node 0 tilt 2 turn 8;craft a in p phase 0 reach 1;"
            + "site s at 0 2 from " + from + " to " + to + ";");
        due("passes from " + from + " to " + to, x.site(0, 4), passes);
        due("ticks from " + from + " to " + to, x.site(0, 5), 3 * passes);
    }

    @Says("A SITE HAS a PASS of its cell by a CRAFT, if from is no more than the TICK at which it begins, mod day,")
    static void termIII_aSiteHasAPassThatBeginsFromItsHoursOn() {
        siteHas(3, 8, 1);
        siteHas(2, 8, 1);
        siteHas(4, 8, 0);
        // Two days a cycle: above columns 0 7 6 5 4 3 2 1, so above (4, 1) at tick 4, which is 0 of its day.
        OrbitDesk x = desk("grid 8 by 3 day 4;plane p node 0 tilt 0 turn 8;craft a in p phase 0 reach 0;"
            + "site s at 4 1 from 0 to 1;site t at 3 1 from 1 to 2;site u at 3 1 from 2 to 4;"
            + "site v at 1 1 from 3 to 4;");
        int[] passes = {1, 1, 0, 1};
        for (int site = 0; site < 4; site++) {
            due("site " + site, x.site(site, 4), passes[site]);
        }
    }

    @Says("and that and its length together no more than to.")
    static void termIII_aSiteHasAPassThatEndsInItsHours() {
        siteHas(3, 6, 1);
        siteHas(3, 5, 0);
        siteHas(0, 6, 1);
        // The pass from 7 on ends at 10, beyond every to.
        siteHas(7, 8, 0);
        OrbitDesk x = desk("grid 8 by 5 day 8;plane p node 0 tilt 2 turn 8;craft a in p phase 0 reach 12;"
            + "site s at 0 2 from 0 to 8;site t at 0 2 from 0 to 7;");
        due("all ticks of the day", x.site(0, 5), 8);
        due("all but one", x.site(1, 4), 0);
        // Each of eight craft has the pass at 3 4 5; the gaps at 2 and at 6 are none.
        OrbitDesk y = desk(eight("grid 8 by 5 day 8;plane p node 0 tilt 2 turn 8;", "phase 0 reach 1")
            + "site s at 0 2 from 0 to 8;");
        due("passes of eight", y.site(0, 4), 8);
        due("ticks of eight", y.site(0, 5), 24);
    }

    private static OrbitDesk noted(String text, int... rows) {
        OrbitDesk x = desk(text);
        feed(x, rows);
        due("note()", x.note(), rows.length / 4);
        return x;
    }

    private static void suspects(OrbitDesk x, int... list) {
        due("suspect(NONE)", x.suspect(NONE), list.length);
        for (int k = 0; k < list.length; k++) {
            due("suspect(" + k + ")", x.suspect(k), list[k]);
        }
    }

    @Says("NOTED are rows of a TICK, a COLUMN, a ROW, 1 or 0: SEEN at that TICK or not.")
    static void termIII_notedRows() {
        // At tick 1 craft a is above column 1, b above 3; the cell (3, 2) is below b alone.
        suspects(noted(RING, 1, 3, 2, 1), 0, 2);
        suspects(noted(RING, 1, 3, 2, 0), 1);
        suspects(noted(RING, 3, 1, 2, 0), 1);
        suspects(noted(RING, 1, 2, 2, 0), 0, 1, 2);
        suspects(noted(RING, 1, 2, 2, 1));
        // (1, 0) and (1, 2) are not seen at 0, (1, 1) is by both.
        suspects(noted(RING, 0, 1, 0, 0, 0, 1, 2, 1));
        suspects(noted(RING, 0, 1, 0, 0, 0, 1, 1, 1, 0, 1, 2, 0), 0, 1, 2);
        suspects(noted(RING, 0, 1, 1, 1, 1, 1, 1, 1, 3, 3, 1, 0));
    }

    @Says("SUSPECTS are those CRAFT that are UP of which one, being lost, makes all so,")
    static void termIII_suspects() {
        suspects(noted(RING, 0, 0, 0, 0), 0);
        suspects(noted(RING, 0, 0, 0, 0, 0, 2, 0, 1), 0);
        suspects(noted(RING, 0, 0, 0, 0, 0, 2, 0, 0));
        OrbitDesk x = noted(RING, 0, 0, 0, 0);
        x.lose(0);
        suspects(x, 1, 2);
        x.lose(1);
        suspects(x, 2);
    }

    @Says("and, as the number of CRAFT, that none more is.")
    static void termIII_thatNoneMoreIsLost() {
        suspects(noted(RING, 0, 0, 0, 1, 0, 2, 0, 1), 2);
        suspects(noted(ALONE, 0, 0, 0, 1), 1);
        suspects(noted("grid 4 by 3 day 2;", 1, 3, 2, 0), 0);
        suspects(noted("grid 4 by 3 day 2;", 1, 3, 2, 1));
    }

    @Says("TELLING is the TICK of the CYCLE at which, by how many cells are SEEN, the most SUSPECTS left are fewest;")
    static void termIII_telling() {
        // Together above one cell at tick 0: 1 cell whoever is lost; apart at 1: 1, 1 or 2 cells.
        OrbitDesk x = desk("grid 8 by 3 day 8;plane p node 0 tilt 0 turn 8;plane q node 0 tilt 0 turn 4;"
            + "craft a in p phase 0 reach 0;craft b in q phase 0 reach 0;");
        due("tells(0)", x.tells(0), 1);
        due("tells(1)", x.tells(1), 2);
        // Of a and none alone, as (0, 1) is seen with b alone: apart they show.
        feed(x, 1, 1, 1, 1);
        x.note();
        suspects(x, 0, 2);
        due("tells(0) of two", x.tells(0), 1);
        due("tells(1) of two", x.tells(1), 1);
        // b sees nothing that a does not: its loss looks as none does, a's does not.
        OrbitDesk y = desk("grid 8 by 3 day 8;plane p node 0 tilt 0 turn 8;craft a in p phase 0 reach 1;"
            + "craft b in p phase 0 reach 0;");
        due("tells(1) of three", y.tells(1), 2);
        // Above row 0 at tick 0, and nowhere else then.
        OrbitDesk z = desk("grid 8 by 5 day 8;plane p node 0 tilt 2 turn 8;craft a in p phase 6 reach 0;");
        due("by row 0", z.tells(0), 0);
        due("by row 0", z.tells(1), 1);
    }

    @Says("of like ones the first. AN IMAGE")
    static void termIII_tellingOfLikeOnesTheFirst() {
        OrbitDesk x = desk(RING);
        due("all ticks are alike", x.tells(0), 0);
        due("a's and b's loss look alike", x.tells(1), 2);
        // Without suspects but none all ticks are alike, too.
        OrbitDesk y = noted(RING, 0, 0, 0, 1, 0, 2, 0, 1);
        due("tells(0) of one", y.tells(0), 0);
        due("tells(1) of one", y.tells(1), 1);
        // Eight above one cell at each tick: whoever is lost, it does not show.
        OrbitDesk z = desk(eight("grid 8 by 3 day 8;plane p node 0 tilt 0 turn 4;", "phase 0 reach 0"));
        due("no loss of eight shows", z.tells(0), 0);
        due("no loss of eight shows", z.tells(1), 9);
        OrbitDesk w = desk(eight("grid 8 by 3 day 8;plane q node 0 tilt 0 turn 8;plane p node 0 tilt 0 turn 4;",
            "phase 0 reach 0").replace("h in p", "h in q"));
        due("h's loss shows at 1", w.tells(0), 1);
        due("h's loss shows at 1", w.tells(1), 8);
        w.reach(0, 12);
        w.reach(1, 12);
        due("no loss shows below two that see all", w.tells(0), 0);
        due("no loss shows below two that see all", w.tells(1), 9);
    }

    @Says("AN IMAGE: of each PLANE its node, of each CRAFT 1, if it is UP, else 0, its phase, its reach;")
    static void termIII_whatAnImageTells() {
        OrbitDesk x = desk("grid 8 by 5 day 8;plane p node 7 tilt 2 turn 8;craft a in p phase 6 reach 12;"
            + "plane q node 3 tilt 0 turn 4;craft b in q phase 3 reach 0;");
        x.lose(1);
        due("bytes", x.image(), 9);
        int[] bytes = {7, 3, 1, 6, 12, 0, 3, 0};
        for (int k = 0; k < bytes.length; k++) {
            due("octet(" + k + ")", x.octet(k), bytes[k]);
        }
    }

    @Says("last a byte: all ahead from 167 on, c = (3 c + it) mod 251.")
    static void termIII_theLastByteOfAnImage() {
        OrbitDesk x = desk(RING);
        x.image();
        // 0 1 0 1 1 1 1: 167, 250, 249, 245, 234, 201, 102, 56.
        due("octet(7)", x.octet(7), 56);
        OrbitDesk y = desk("grid 4 by 3 day 2;");
        y.image();
        due("nothing is ahead", y.octet(0), 167);
        OrbitDesk z = desk("grid 4 by 3 day 2;plane p node 0 tilt 0 turn 2;");
        z.image();
        due("250 is below 251", z.octet(1), 250);
        z.node(0, 1);
        z.image();
        due("251 is 0", z.octet(1), 0);
    }
}
