/** Term I, sentence by sentence: a desk's text, its bounds, its names, numbers and blanks, its faults. */
final class TermOneTests extends Checks {
    private static final String GRID = "grid 8 by 5 day 8;";
    private static final String PLANE = "plane p node 0 tilt 2 turn 8;";
    private static final String CRAFT = "craft a in p phase 0 reach 1;";
    private static final String SITE = "site s at 0 0 from 0 to 8;";
    private static final String[] OWN = {"grid", "by", "day", "plane", "node", "tilt", "turn", "craft", "in", "phase",
        "reach", "site", "at", "from", "to"};

    private TermOneTests() {
    }

    @Says("A DESK is a text: { STATEMENT ; }:")
    static void termI_eachStatementHasItsSemicolon() {
        good(GRID, 1);
        good(GRID + PLANE, 2);
        good(GRID + PLANE + CRAFT + SITE, 4);
        faultBehind(1, "grid 8 by 5 day 8^");
        faultBehind(1, GRID + "plane p node 0 tilt 2 turn 8^");
        faultBehind(1, GRID + PLANE + "craft a in p phase 0 reach 1^");
        faultBehind(1, GRID + "site s at 0 0 from 0 to 8^");
        faultBehind(1, "grid 8 by 5 day 8 ^plane p");
        faultBehind(1, "grid 8 by 5 day 8^,");
        faultBehind(1, GRID + "^;");
        faultBehind(1, "^;" + GRID);
    }

    @Says("grid N by N day N (")
    static void termI_wordsOfGrid() {
        faultBehind(1, "^plane 8 by 5 day 8;");
        faultBehind(1, "grid ^by 5 day 8;");
        faultBehind(1, "grid 8 ^in 5 day 8;");
        faultBehind(1, "grid 8 ^5 day 8;");
        faultBehind(1, "grid 8 by ^day 8;");
        faultBehind(1, "grid 8 by 5 ^turn 8;");
        faultBehind(1, "grid 8 by 5 ^8;");
        faultBehind(1, "grid 8 by 5 day ^;");
    }

    @Says("4 .. 24 COLUMNS,")
    static void termI_columns() {
        good("grid 4 by 5 day 8;", 1);
        good("grid 24 by 5 day 8;", 1);
        faultBehind(2, "grid ^3 by 5 day 8;");
        faultBehind(2, "grid ^25 by 5 day 8;");
        faultBehind(2, "grid ^0 by 5 day 8;");
        faultBehind(2, "grid ^99 by 5 day 8;");
        due("columns", desk("grid 24 by 5 day 8;").has(0), 24);
    }

    @Says("3 .. 12 ROWS,")
    static void termI_rows() {
        good("grid 8 by 3 day 8;", 1);
        good("grid 8 by 12 day 8;", 1);
        faultBehind(2, "grid 8 by ^2 day 8;");
        faultBehind(2, "grid 8 by ^13 day 8;");
        faultBehind(2, "grid 8 by ^0 day 8;");
        due("rows", desk("grid 8 by 12 day 8;").has(1), 12);
    }

    @Says("2 .. 96 TICKS; the first STATEMENT")
    static void termI_ticksOfTheDay() {
        good("grid 8 by 5 day 2;", 1);
        good("grid 8 by 5 day 96;", 1);
        faultBehind(2, "grid 8 by 5 day ^1;");
        faultBehind(2, "grid 8 by 5 day ^97;");
        faultBehind(2, "grid 8 by 5 day ^0;");
        due("day", desk("grid 8 by 5 day 96;").has(2), 96);
    }

    @Says("the first STATEMENT, and it alone);")
    static void termI_gridIsTheFirstStatementAndItAlone() {
        faultBehind(1, "^" + PLANE + GRID);
        faultBehind(1, "^" + SITE + GRID);
        faultBehind(1, "^" + CRAFT + GRID);
        faultBehind(1, GRID + "^" + GRID);
        faultBehind(1, GRID + PLANE + " ^" + GRID);
    }

    @Says("plane NAME node N tilt N turn N (")
    static void termI_wordsOfPlane() {
        faultBehind(1, GRID + "plane ^node 0 tilt 2 turn 8;");
        faultBehind(1, GRID + "plane p ^in 0 tilt 2 turn 8;");
        faultBehind(1, GRID + "plane p node ^tilt 2 turn 8;");
        faultBehind(1, GRID + "plane p node 0 ^turn 8;");
        faultBehind(1, GRID + "plane p node 0 tilt ^turn 8;");
        faultBehind(1, GRID + "plane p node 0 tilt 2 ^;");
        faultBehind(1, GRID + "plane p node 0 tilt 2 turn ^;");
    }

    @Says("(a COLUMN; 0 up")
    static void termI_nodeIsAColumn() {
        good(GRID + "plane p node 0 tilt 2 turn 8;", 2);
        good(GRID + "plane p node 7 tilt 2 turn 8;", 2);
        faultBehind(2, GRID + "plane p node ^8 tilt 2 turn 8;");
        good("grid 24 by 5 day 8;plane p node 23 tilt 2 turn 8;", 2);
        faultBehind(2, "grid 24 by 5 day 8;plane p node ^24 tilt 2 turn 8;");
    }

    @Says("0 up to half of ROWS, cut;")
    static void termI_tiltIsUpToHalfOfRowsCut() {
        int[] rows = {3, 4, 5, 11, 12};
        int[] most = {1, 2, 2, 5, 6};
        for (int i = 0; i < rows.length; i++) {
            String head = "grid 8 by " + rows[i] + " day 8;plane p node 0 tilt ";
            good(head + "0 turn 8;", 2);
            good(head + most[i] + " turn 8;", 2);
            faultBehind(2, head + "^" + (most[i] + 1) + " turn 8;");
        }
    }

    @Says("2 .. 96 TICKS; 4 PLANES")
    static void termI_turnIsTwoToNinetySix() {
        good("grid 8 by 5 day 2;plane p node 0 tilt 2 turn 2;", 2);
        good("grid 8 by 5 day 2;plane p node 0 tilt 2 turn 96;", 2);
        faultBehind(2, "grid 8 by 5 day 2;plane p node 0 tilt 2 turn ^1;");
        faultBehind(2, "grid 8 by 5 day 2;plane p node 0 tilt 2 turn ^0;");
        faultBehind(2, "grid 8 by 5 day 2;plane p node 0 tilt 2 turn ^97;");
    }

    @Says("4 PLANES);")
    static void termI_fourPlanes() {
        good(GRID + planes(4), 5);
        faultBehind(5, GRID + planes(4) + "^plane e node 0 tilt 0 turn 2;");
        due("planes", desk(GRID + planes(4)).has(3), 4);
    }

    @Says("craft NAME in NAME phase N reach N (")
    static void termI_wordsOfCraft() {
        faultBehind(1, GRID + PLANE + "craft ^in p phase 0 reach 1;");
        faultBehind(1, GRID + PLANE + "craft a ^at p phase 0 reach 1;");
        faultBehind(1, GRID + PLANE + "craft a in ^phase 0 reach 1;");
        faultBehind(1, GRID + PLANE + "craft a in ^0 phase 0 reach 1;");
        faultBehind(1, GRID + PLANE + "craft a in p ^reach 1;");
        faultBehind(1, GRID + PLANE + "craft a in p phase ^reach 1;");
        faultBehind(1, GRID + PLANE + "craft a in p phase 0 ^;");
        faultBehind(1, GRID + PLANE + "craft a in p phase 0 reach ^;");
    }

    @Says("a PLANE told ahead;")
    static void termI_theCraftsPlaneIsToldAhead() {
        good(GRID + PLANE + CRAFT, 3);
        faultBehind(3, GRID + "craft a in ^p phase 0 reach 1;" + PLANE);
        faultBehind(3, GRID + PLANE + "craft a in ^q phase 0 reach 1;plane q node 0 tilt 0 turn 8;");
        OrbitDesk x = desk(GRID + PLANE + "plane q node 0 tilt 0 turn 8;craft a in q phase 0 reach 1;craft b in p "
            + "phase 0 reach 1;plane r node 0 tilt 0 turn 8;craft c in r phase 0 reach 1;");
        due("a's plane", x.craft(0, 0), 1);
        due("b's plane", x.craft(1, 0), 0);
        due("c's plane", x.craft(2, 0), 2);
    }

    @Says("0 .. its turn less 1;")
    static void termI_phaseIsBelowItsTurn() {
        good(GRID + PLANE + "craft a in p phase 0 reach 1;", 3);
        good(GRID + PLANE + "craft a in p phase 7 reach 1;", 3);
        faultBehind(2, GRID + PLANE + "craft a in p phase ^8 reach 1;");
        String two = GRID + PLANE + "plane q node 0 tilt 0 turn 4;";
        good(two + "craft a in p phase 4 reach 1;craft b in q phase 3 reach 1;", 5);
        faultBehind(2, two + "craft a in q phase ^4 reach 1;");
        good("grid 8 by 5 day 2;plane p node 0 tilt 2 turn 96;craft a in p phase 95 reach 1;", 3);
        faultBehind(2, "grid 8 by 5 day 2;plane p node 0 tilt 2 turn 96;craft a in p phase ^96 reach 1;");
    }

    @Says("0 .. 12; 8 CRAFT")
    static void termI_reachIsUpToTwelve() {
        good(GRID + PLANE + "craft a in p phase 0 reach 0;", 3);
        good(GRID + PLANE + "craft a in p phase 0 reach 12;", 3);
        faultBehind(2, GRID + PLANE + "craft a in p phase 0 reach ^13;");
    }

    @Says("8 CRAFT);")
    static void termI_eightCraft() {
        good(GRID + PLANE + crafts(8), 10);
        faultBehind(5, GRID + PLANE + crafts(8) + "^craft i in p phase 0 reach 0;");
        due("craft", desk(GRID + PLANE + crafts(8)).has(4), 8);
    }

    @Says("site NAME at N N from N to N (")
    static void termI_wordsOfSite() {
        faultBehind(1, GRID + "site ^at 0 0 from 0 to 8;");
        faultBehind(1, GRID + "site s ^in 0 0 from 0 to 8;");
        faultBehind(1, GRID + "site s at ^from 0 to 8;");
        faultBehind(1, GRID + "site s at 0 ^from 0 to 8;");
        faultBehind(1, GRID + "site s at 0 0 ^0 to 8;");
        faultBehind(1, GRID + "site s at 0 0 from ^to 8;");
        faultBehind(1, GRID + "site s at 0 0 from 0 ^8;");
        faultBehind(1, GRID + "site s at 0 0 from 0 to ^;");
    }

    @Says("a COLUMN, a ROW;")
    static void termI_aSiteIsAtACell() {
        good(GRID + "site s at 7 4 from 0 to 8;", 2);
        faultBehind(2, GRID + "site s at ^8 4 from 0 to 8;");
        faultBehind(2, GRID + "site s at 7 ^5 from 0 to 8;");
        good("grid 4 by 12 day 8;site s at 3 11 from 0 to 8;", 2);
        faultBehind(2, "grid 4 by 12 day 8;site s at ^4 11 from 0 to 8;");
    }

    @Says("0 .. day less 1,")
    static void termI_fromIsBelowTheDay() {
        good(GRID + "site s at 0 0 from 0 to 8;", 2);
        good(GRID + "site s at 0 0 from 7 to 8;", 2);
        faultBehind(2, GRID + "site s at 0 0 from ^8 to 8;");
        faultBehind(2, GRID + "site s at 0 0 from ^99 to 8;");
    }

    @Says("then more than that, up to day;")
    static void termI_toIsMoreThanFromUpToDay() {
        good(GRID + "site s at 0 0 from 3 to 4;", 2);
        good(GRID + "site s at 0 0 from 3 to 8;", 2);
        faultBehind(2, GRID + "site s at 0 0 from 3 to ^3;");
        faultBehind(2, GRID + "site s at 0 0 from 3 to ^2;");
        faultBehind(2, GRID + "site s at 0 0 from 3 to ^9;");
        faultBehind(2, GRID + "site s at 0 0 from 0 to ^0;");
    }

    @Says("6 SITES).")
    static void termI_sixSites() {
        good(GRID + sites(6), 7);
        faultBehind(5, GRID + sites(6) + "^site z at 0 0 from 0 to 1;");
        due("sites", desk(GRID + sites(6)).has(6), 6);
    }

    @Says("All numbered from 0 on as told, PLANES, CRAFT, SITES each by themselves.")
    static void termI_numberedAsTold() {
        OrbitDesk x = desk(GRID + "site m at 1 1 from 0 to 8;plane z node 4 tilt 0 turn 8;craft y in z phase 3 reach 1;"
            + "plane b node 5 tilt 0 turn 8;site d at 2 2 from 0 to 8;craft c in b phase 6 reach 1;");
        due("plane 0", x.letter(0, 0, 0), 26);
        due("plane 1", x.letter(0, 1, 0), 2);
        due("craft 0", x.letter(1, 0, 0), 25);
        due("craft 1", x.letter(1, 1, 0), 3);
        due("site 0", x.letter(2, 0, 0), 13);
        due("site 1", x.letter(2, 1, 0), 4);
        due("node of plane 0", x.plane(0, 0), 4);
        due("node of plane 1", x.plane(1, 0), 5);
        due("phase of craft 0", x.craft(0, 1), 3);
        due("phase of craft 1", x.craft(1, 1), 6);
        due("column of site 0", x.site(0, 0), 1);
        due("column of site 1", x.site(1, 0), 2);
    }

    @Says("NAMES: 1 to 6 letters,")
    static void termI_namesHaveOneToSixLetters() {
        good(GRID + "plane z node 0 tilt 2 turn 8;craft a in z phase 0 reach 1;", 3);
        good(GRID + "plane abcxyz node 0 tilt 2 turn 8;craft abcxyy in abcxyz phase 0 reach 1;site abcxyw at 0 0 "
            + "from 0 to 8;", 4);
        faultBehind(1, GRID + "plane abcxyz^a node 0 tilt 2 turn 8;");
        faultBehind(1, GRID + "plane ^;");
        faultBehind(1, GRID + "plane ^A node 0 tilt 2 turn 8;");
        faultBehind(1, GRID + "plane ^{ node 0 tilt 2 turn 8;");
        faultBehind(1, GRID + "plane ^` node 0 tilt 2 turn 8;");
        faultBehind(1, GRID + "plane ^7 node 0 tilt 2 turn 8;");
        faultBehind(1, GRID + "plane a^_b node 0 tilt 2 turn 8;");
        faultBehind(1, GRID + "plane ^" + (char) 225 + " node 0 tilt 2 turn 8;");
    }

    @Says("all unlike,")
    static void termI_namesAreAllUnlike() {
        String head = GRID + PLANE + CRAFT + SITE;
        for (String there : new String[] {"p", "a", "s"}) {
            faultBehind(3, head + "plane ^" + there + " node 0 tilt 0 turn 8;");
            faultBehind(3, head + "craft ^" + there + " in p phase 0 reach 1;");
            faultBehind(3, head + "site ^" + there + " at 0 0 from 0 to 8;");
        }
        good(head + "plane pp node 0 tilt 0 turn 8;craft aa in pp phase 0 reach 1;site ss at 0 0 from 0 to 8;", 7);
        good(GRID + "plane abcdef node 0 tilt 0 turn 8;plane abcdeg node 0 tilt 0 turn 8;plane abcde node 0 tilt 0 "
            + "turn 8;plane bbcdef node 0 tilt 0 turn 8;", 5);
    }

    @Says("no OWN WORD: grid, by, day, plane, node, tilt, turn, craft, in, phase, reach, site, at, from, to.")
    static void termI_ownWordsAreNoNames() {
        for (String own : OWN) {
            faultBehind(1, GRID + "plane ^" + own + " node 0 tilt 2 turn 8;");
            faultBehind(1, GRID + PLANE + "craft ^" + own + " in p phase 0 reach 1;");
            faultBehind(1, GRID + PLANE + "craft a in ^" + own + " phase 0 reach 1;");
            faultBehind(1, GRID + "site ^" + own + " at 0 0 from 0 to 8;");
            String more = own.length() < 6 ? own + "s" : own;
            String less = own.substring(1);
            good(GRID + "site " + more + " at 0 0 from 0 to 8;site " + less + " at 0 0 from 0 to 8;", 3);
        }
    }

    @Says("N: 1 or 2 digits.")
    static void termI_numbersHaveOneOrTwoDigits() {
        good("grid 08 by 05 day 08;plane p node 00 tilt 02 turn 08;", 2);
        due("08", desk("grid 08 by 05 day 08;").has(0), 8);
        faultBehind(1, "grid 08^8 by 5 day 8;");
        faultBehind(1, "grid 00^8 by 5 day 8;");
        faultBehind(1, "grid ^by 5 day 8;");
        faultBehind(1, "grid ^-8 by 5 day 8;");
        faultBehind(1, "grid ^+8 by 5 day 8;");
        faultBehind(1, "grid ^/ by 5 day 8;");
        faultBehind(1, "grid ^: by 5 day 8;");
    }

    @Says("Blanks (10, 32) are where one likes")
    static void termI_blanksAreWhereOneLikes() {
        good("\n\n grid\n8 \n by  5\nday\n\n8 \n;\n plane\np node 0 tilt 2 turn 8\n; ", 2);
        for (int sign : new int[] {0, 9, 11, 12, 13, 31, 33, 160, 255}) {
            faultBehind(1, "^" + (char) sign + GRID);
            faultBehind(1, "grid^" + (char) sign + "8 by 5 day 8;");
            faultBehind(1, "grid 8^" + (char) sign + "by 5 day 8;");
            faultBehind(1, GRID + "^" + (char) sign);
        }
    }

    @Says("(words and numbers side by side need one).")
    static void termI_sideBySideNeedABlank() {
        good("grid 8 by 5 day 8;plane p node 0 tilt 2 turn 8;craft a in p phase 0 reach 1;", 3);
        faultBehind(1, "grid^8 by 5 day 8;");
        faultBehind(1, "grid 8^by 5 day 8;");
        faultBehind(1, "grid 8 by^5 day 8;");
        faultBehind(1, "grid 8 by 5^day 8;");
        faultBehind(1, "grid 8 by 5 day^8;");
        faultBehind(1, GRID + "plane p node^0 tilt 2 turn 8;");
        faultBehind(1, GRID + PLANE + "craft a in p phase 0^reach 1;");
        faultBehind(1, GRID + PLANE + "craft a^1 in p phase 0 reach 1;");
        faultBehind(1, GRID + "^planep node 0 tilt 2 turn 8;");
        due("numbers that touch are one", desk("grid 12 by 5 day 8;").has(0), 12);
        faultBehind(1, GRID + "site s at 00 ^from 0 to 8;");
    }

    @Says("FAULTS, the first along the text:")
    static void termI_theFirstFaultAlongTheText() {
        faultBehind(2, "grid ^3 by 99 dya 8");
        faultBehind(2, "grid ^3by 5 day 8;");
        faultBehind(1, "grid 8 ^yb 99 day 8;");
        faultBehind(3, GRID + PLANE + "plane ^p node 9 tilt 9 turn 1;");
        faultBehind(2, GRID + PLANE + "plane q node ^9 tilt 2 turn 8;plane p node 0 tilt 2 turn 8;");
        faultBehind(3, GRID + PLANE + "craft ^p in q phase 9 reach 13;");
        faultBehind(3, GRID + PLANE + "craft a in ^q phase 99 reach 13;");
        faultBehind(2, GRID + PLANE + "craft a in p phase ^8 reach 13");
        faultBehind(5, GRID + planes(4) + "^plane a node 99 tilt 2 turn 8;");
        faultBehind(2, GRID + planes(3) + "plane d node ^8 tilt 0 turn 2;plane e");
    }

    @Says("1 the first byte with which no such text goes on")
    static void termI_fault1TheFirstByteThatDoesNotGoOn() {
        faultBehind(1, "^x");
        faultBehind(1, "^8");
        faultBehind(1, "grid 8 by 5 day 8 ^. ;");
        faultBehind(1, GRID + PLANE + "craft a in p phase 0 reach 1 ^1;");
        faultBehind(1, GRID + "^8;");
        faultBehind(1, GRID + "^x;");
        faultBehind(1, GRID + "^node 0;");
        faultBehind(1, GRID + PLANE + CRAFT + SITE + "^" + (char) 0);
        faultBehind(1, GRID + PLANE + "^" + (char) 128 + CRAFT);
    }

    @Says("(words and numbers whole, at their first byte;")
    static void termI_wordsAndNumbersWholeAtTheirFirstByte() {
        faultBehind(1, "^grit 8 by 5 day 8;");
        faultBehind(1, "^grids 8 by 5 day 8;");
        faultBehind(1, "^griddle 8 by 5 day 8;");
        faultBehind(1, "^gri 8 by 5 day 8;");
        faultBehind(1, "grid 8 ^bye 5 day 8;");
        faultBehind(1, "grid 8 ^b 5 day 8;");
        faultBehind(1, GRID + "^planet p node 0 tilt 2 turn 8;");
        faultBehind(1, GRID + "^sites s at 0 0 from 0 to 8;");
        faultBehind(1, GRID + "^cr");
        faultBehind(1, "grid 8 by 5 day 8 ^12;");
        faultBehind(1, GRID + "plane p ^12 0 tilt 2 turn 8;");
        faultBehind(1, GRID + "plane p ^nodenode 0 tilt 2 turn 8;");
    }

    @Says("where a NAME is asked, an OWN WORD so,")
    static void termI_anOwnWordForANameIsAFaultAtItsFirstByte() {
        faultBehind(1, GRID + "plane ^phase node 0 tilt 2 turn 8;");
        faultBehind(1, GRID + "craft ^craft");
        faultBehind(1, GRID + PLANE + "craft a in ^plane");
        faultBehind(1, GRID + "site ^to");
        faultBehind(1, GRID + "site ^at 0 0 from 0 to 8;");
    }

    @Says("a 7th letter at itself;")
    static void termI_aSeventhLetterAtItself() {
        faultBehind(1, GRID + "plane abcdef^g node 0 tilt 2 turn 8;");
        faultBehind(1, GRID + "plane abcdef^gh node 0 tilt 2 turn 8;");
        faultBehind(1, GRID + "craft planes^s in p phase 0 reach 1;");
        faultBehind(1, GRID + PLANE + "craft a in pppppp^p phase 0 reach 1;");
        faultBehind(1, GRID + "site sitesi^tes at 0 0 from 0 to 8;");
        String six = GRID + "plane abcdef node 0 tilt 2 turn 8;";
        faultBehind(1, six + "craft a in abcdef^g phase 0 reach 1;");
        faultBehind(1, six + "craft abcdef^g in abcdef phase 0 reach 1;");
    }

    @Says("where a number is asked, a 3rd digit at itself;")
    static void termI_aThirdDigitAtItself() {
        faultBehind(1, "grid 08^0 by 5 day 8;");
        faultBehind(1, "grid 8 by 05^5 day 8;");
        faultBehind(1, "grid 8 by 5 day 96^0;");
        faultBehind(1, "grid 8 by 5 day 96^00;");
        faultBehind(1, GRID + "plane p node 00^0 tilt 2 turn 8;");
        faultBehind(1, GRID + PLANE + "craft a in p phase 0 reach 12^0;");
        faultBehind(1, GRID + "site s at 0 04^1 from 0 to 8;");
        faultBehind(1, GRID + "site s at 0 0 from 0 to 08^1;");
    }

    @Says("at the text's length, if it ends too soon);")
    static void termI_aTextThatEndsTooSoon() {
        String whole = GRID + PLANE + CRAFT + SITE;
        int from = 0;
        for (String part : whole.split("(?<=[ ;])")) {
            String word = part.trim();
            int statements = whole.substring(0, from).length() - whole.substring(0, from).replace(";", "").length();
            if (from == 0 || whole.charAt(from - 1) != ';') {
                fault(whole.substring(0, from), 1, from);
                fault(whole.substring(0, from) + " \n", 1, from + 2);
            } else {
                good(whole.substring(0, from), statements);
            }
            String end = whole.substring(0, from) + word.replace(";", "");
            fault(end, 1, end.length());
            from += part.length();
        }
    }

    @Says("2 a number that can't be, at it;")
    static void termI_fault2AtTheNumber() {
        faultBehind(2, "grid ^3");
        faultBehind(2, "grid   \n ^03 by");
        faultBehind(2, "grid 8 by 5 day ^97");
        faultBehind(2, GRID + "plane p node 0 tilt   ^3");
        faultBehind(2, GRID + PLANE + "craft a in p phase 0 reach ^99;");
        faultBehind(2, GRID + "site s at 0 0 from 7 to ^07;");
    }

    @Says("3 a NAME to be given that is there already,")
    static void termI_fault3ANameThatIsThere() {
        faultBehind(3, GRID + PLANE + "plane ^p");
        faultBehind(3, GRID + PLANE + CRAFT + "craft  ^a");
        faultBehind(3, GRID + SITE + "site\n^s");
        faultBehind(3, GRID + PLANE + "craft ^p in p phase 0 reach 1;");
        faultBehind(3, GRID + "plane abcdef node 0 tilt 2 turn 8;site ^abcdef at");
    }

    @Says("or one that is none of a PLANE where that is asked, at it;")
    static void termI_fault3ANameThatIsNoPlanes() {
        faultBehind(3, GRID + PLANE + "craft a in ^q");
        faultBehind(3, GRID + PLANE + "craft a in ^pp phase 0 reach 1;");
        faultBehind(3, GRID + PLANE + "craft a in ^a phase 0 reach 1;");
        faultBehind(3, GRID + PLANE + CRAFT + "craft b in ^a phase 0 reach 1;");
        faultBehind(3, GRID + PLANE + SITE + "craft b in ^s phase 0 reach 1;");
        faultBehind(3, GRID + "craft b in ^p phase 0 reach 1;");
    }

    @Says("5 one too many: a 5th plane, a 9th craft, a 7th site, at that word;")
    static void termI_fault5OneTooMany() {
        faultBehind(5, GRID + planes(4) + " \n ^plane");
        faultBehind(1, GRID + planes(4) + "^plan e");
        faultBehind(5, GRID + PLANE + crafts(8) + "^craft ");
        faultBehind(5, GRID + sites(6) + "^site s");
        faultBehind(5, GRID + PLANE + crafts(8) + sites(6) + "^craft ");
        good(GRID + planes(4) + "craft i in a phase 0 reach 1;" + sites(6), 12);
    }

    @Says("6 a CYCLE of more than 240 TICKS, at the text's length, if nothing else is wrong.")
    static void termI_fault6ACycleTooLong() {
        String day80 = "grid 8 by 5 day 80;plane p node 0 tilt 2 turn ";
        good(day80 + "48;", 2);
        due("240", desk(day80 + "48;").has(7), 240);
        faultBehind(6, day80 + "49;^");
        faultBehind(6, "grid 8 by 5 day 11;plane p node 0 tilt 2 turn 22;plane q node 0 tilt 0 turn 23;^");
        faultBehind(6, "grid 8 by 5 day 12;plane p node 0 tilt 2 turn 21;plane q node 0 tilt 0 turn 9;^");
        faultBehind(6, "grid 8 by 5 day 95;plane p node 0 tilt 2 turn 96;plane q node 0 tilt 0 turn 91;^");
        faultBehind(6, "grid 8 by 5 day 4;plane p node 0 tilt 2 turn 61;^");
        faultBehind(6, day80 + "48;plane q node 0 tilt 0 turn 7;^");
        good(day80 + "48;plane q node 0 tilt 0 turn 60;", 3);
        faultBehind(6, day80 + "49; \n^");
        faultBehind(1, day80 + "49;^x");
        faultBehind(1, day80 + "49^");
        faultBehind(2, day80 + "49;plane q node 0 tilt 0 turn ^1;");
        good("grid 8 by 5 day 5;plane p node 0 tilt 2 turn 48;plane q node 0 tilt 0 turn 80;", 3);
        faultBehind(6, "grid 8 by 5 day 11;plane p node 0 tilt 2 turn 22;plane q node 0 tilt 0 turn 24;^");
    }

    @Says("a CYCLE of more than 240 TICKS")
    static void termI_aCycleOf240TicksIsWhole() {
        OrbitDesk x = desk(FULL);
        due("cycle", x.has(7), 240);
        due("240 is 0 again", x.cover(240), x.cover(0));
        // The last one, of reach 12, sees all of row 11.
        x.lose(7);
        int seen = 0;
        for (int t = 0; t < 240; t++) {
            seen += x.seen(t, 11, 11) > 0 ? 1 : 0;
        }
        int missed = 0;
        int gaps = x.gaps(11, 11);
        for (int k = 0; k < gaps; k++) {
            missed += x.gap(11, 11, k, 1);
        }
        due("some are missed", missed > 0, true);
        due("seen and missed", seen + missed, 240);
        due("no gap behind the last", x.gap(11, 11, gaps, 0), NONE);
        due("no pass behind the last", x.pass(11, 11, NONE, x.passes(11, 11, NONE), 0), NONE);
        due("at no more ticks by two than by one", x.depth(11, 11, 2) <= seen, true);
        OrbitDesk y = desk(FULL);
        for (int craft = 0; craft < 8; craft++) {
            y.lose(craft);
        }
        due("a gap of all", y.worst(0), 240);
        due("a gap of all", y.gap(23, 11, 0, 1), 240);
        due("none is ever seen", y.never(), 288);
    }

    @Says({"4 .. 24 COLUMNS, 3 .. 12 ROWS,", "4 PLANES);", "8 CRAFT);", "6 SITES)."})
    static void termI_theFullestDeskAnswersAll() {
        OrbitDesk x = desk(FULL);
        String stood = state(x);
        String seen = sights(x);
        for (int which = 0; which < 14; which++) {
            tried(x, which);
        }
        x.tells(0);
        for (int site = 0; site < 6; site++) {
            due("passes of site " + site, x.site(site, 4) >= 0, true);
            due("ticks of site " + site, x.site(site, 5) >= x.site(site, 4), true);
        }
        due("state", state(x).equals(stood), true);
        due("sights", sights(x).equals(seen), true);
    }

    private static String planes(int count) {
        StringBuilder out = new StringBuilder();
        for (int i = 0; i < count; i++) {
            out.append("plane ").append((char) ('a' + i)).append(" node 0 tilt 0 turn 2;");
        }
        return out.toString();
    }

    private static String crafts(int count) {
        StringBuilder out = new StringBuilder();
        for (int i = 0; i < count; i++) {
            out.append("craft ").append((char) ('a' + i)).append(" in p phase 0 reach 1;");
        }
        return out.toString();
    }

    private static String sites(int count) {
        StringBuilder out = new StringBuilder();
        for (int i = 0; i < count; i++) {
            out.append("site ").append((char) ('t' + i)).append(" at 0 0 from 0 to 1;");
        }
        return out.toString();
    }
}
