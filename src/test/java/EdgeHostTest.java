/** The edges of the host, told sentence by sentence: terms 3 (SHEETS), promises 29 to 33. */
public final class EdgeHostTest {
    private static final Due due = new Due("EdgeHostTest");
    private static final Runs runs = new Runs(due);

    public static void main(String[] args) {
        sheetsAreMissingAtFirst();
        fourSheets();
        sortsOfASheet();
        sizesOfASheet();
        aSizeBelowNone();
        aSheetGoesMissing();
        aSheetBecomesAllNone();
        placesOfACell();
        cellsRefuseInOrder();
        bytesKeepEightBits();
        shortsKeepSixteenBits();
        intsKeepAll();
        copiesOfNone();
        copiesOfAll();
        copiesOverThemselves();
        copiesOutside();
        copiesRefuseInOrder();
        copiesKeepNumbers();
        maidsOfNone();
        maidsFromOneOn();
        maidsThatAreLeftOut();
        maidsOutside();
        maidsThatStoodAhead();
        maidsRefuseInOrder();
        takenForEachKind();
        takenRefusesInOrder();
        due.end();
    }

    /** "or missing (as all are at first)" */
    private static void sheetsAreMissingAtFirst() {
        runs.refused(new String[0], -11, "cell(0, 0, 0)", "cell(1, 0, 0)", "cell(2, 0, 0)", "cell(3, 0, 0)", "copy(0, 0, 0, 0, 0)", "maids(0, 0, 0, 1)", "from(0, 0)", "from(3, 0)");
    }

    /** "SHEETS 0 .. 3" */
    private static void fourSheets() {
        runs.run("sheet(0, 0, 1) = 1", "sheet(3, 0, 1) = 1", "cell(0, 0, 5) = 1", "cell(3, 0, 6) = 1", "cell(1, 0, 0) = -11", "cell(2, 0, 0) = -11", "stay(5, 1)", "from(0, 0) = 100", "from(3, 0) = 0", "copy(0, 0, 3, 0, 1) = 1", "from(3, 0) = 100", "film(3, -1, 1) = 1", "film(0, -1, 1) = 1");
        String[] outside = {"-1", "4", "LEAST", "MOST"};
        for (String sheet : outside) {
            runs.bad("sheet(" + sheet + ", 0, 1)", "sheet(" + sheet + ", -1, 1)", "cell(" + sheet + ", 0, 0)", "copy(" + sheet + ", 0, 0, 0, 0)", "copy(0, 0, " + sheet + ", 0, 0)", "maids(" + sheet + ", 0, 0, 1)");
        }
    }

    /** "of sort 0 bytes, 1 shorts, 2 ints"; "or missing (sort -1 ..)"; "BAD: .. sort" */
    private static void sortsOfASheet() {
        runs.run("sheet(0, 0, 1) = 1", "maids(0, 0, 0, 0) = 0", "maids(0, 1, 0, 0) = -13", "maids(0, 2, 0, 0) = -13", "sheet(0, 1, 1) = 1", "maids(0, 1, 0, 0) = 0", "maids(0, 0, 0, 0) = -13", "sheet(0, 2, 1) = 1", "maids(0, 2, 0, 0) = 0", "maids(0, 1, 0, 0) = -13", "sheet(0, -1, 1) = 1", "cell(0, 0, 0) = -11");
        runs.bad("sheet(0, -2, 1)", "sheet(0, 3, 1)", "sheet(0, LEAST, 1)", "sheet(0, MOST, 1)", "sheet(0, 3, -1)", "sheet(0, -2, -1)");
    }

    /** "A SHEET becomes a row of n of a sort"; "n above 40" is BAD. */
    private static void sizesOfASheet() {
        for (int sort = 0; sort < 3; sort++) {
            runs.run("sheet(0, " + sort + ", 0) = 1", "cell(0, 0, 0) = -12", "sheet(0, " + sort + ", 1) = 1", "cell(0, 0, 0) = 1", "cell(0, 1, 0) = -12", "sheet(0, " + sort + ", 40) = 1", "cell(0, 39, 0) = 1", "cell(0, 40, 0) = -12");
            runs.bad("sheet(0, " + sort + ", 41)", "sheet(0, " + sort + ", MOST)");
        }
    }

    /** "-14 a size below 0" */
    private static void aSizeBelowNone() {
        runs.refused(new String[0], -14, "sheet(0, 0, -1)", "sheet(3, 2, LEAST)");
        runs.refused(Runs.HOUSE, -14, "sheet(0, 0, -1)", "sheet(1, 1, -1)", "sheet(2, 0, -1)", "sheet(3, 2, -1)", "sheet(0, 2, LEAST)");
    }

    /** "or missing (sort -1: n does not matter): 1." */
    private static void aSheetGoesMissing() {
        runs.runOn(Runs.HOUSE, "sheet(0, -1, 0) = 1", "cell(0, 0, 0) = -11", "sheet(1, -1, 41) = 1", "cell(1, 0, 0) = -11", "sheet(3, -1, -1) = 1", "cell(3, 0, 0) = -11", "sheet(2, -1, LEAST) = 1", "sheet(2, -1, MOST) = 1", "cell(2, 0, 0) = -11", "sheet(0, 0, 6) = 1", "stay(0, 1)", "cell(0, 5, 1) = 1");
        runs.run("sheet(0, -1, 0) = 1", "from(0, 0) = -11");
    }

    /** "a row of n of a sort, all 0" */
    private static void aSheetBecomesAllNone() {
        for (int sort = 0; sort < 3; sort++) {
            runs.run("stay(0, 1)", "row 0 " + sort + ": 5 6 7", "sheet(0, " + sort + ", 3)", "from(0, 0) = 100", "row 0 " + sort + ": 5 6 7", "sheet(0, -1, 0)", "sheet(0, " + sort + ", 40)", "from(0, 0) = 100");
        }
        runs.run("stay(0, 1)", "row 0 2: 5 6 7", "sheet(0, 0, 5)", "from(0, 0) = 100", "sheet(0, 1, 3)", "from(0, 0) = 100");
        runs.run("stay(0, 1)", "sheet(0, 0, 40)", "cell(0, 39, 5)", "from(0, 0) = 0", "sheet(0, 0, 40)", "from(0, 0) = 100", "cell(0, 0, 5)", "from(0, 0) = 0", "sheet(0, 2, 40)", "from(0, 0) = 100");
        // a shorter row, then a longer one
        runs.run("stay(0, 1)", "row 0 0: 5 6 7", "sheet(0, 0, 1)", "sheet(0, 0, 3)", "from(0, 0) = 100");
    }

    /** "Item i of a SHEET becomes v"; "-12 a place outside" */
    private static void placesOfACell() {
        runs.run("stay(1, 1)", "stay(2, 1)", "stay(3, 50)", "sheet(0, 2, 3)", "cell(0, 0, 1) = 1", "cell(0, 1, 2) = 1", "cell(0, 2, 3) = 1", "from(0, 1) = 0", "cell(0, 3, 1) = -12", "cell(0, -1, 1) = -12", "from(0, 1) = 0");
        runs.refused(Runs.HOUSE, -12, "cell(0, 6, 1)", "cell(0, -1, 1)", "cell(1, 4, 1)", "cell(1, -1, 1)", "cell(3, 3, 1)", "cell(0, LEAST, 1)", "cell(0, MOST, 1)");
        runs.run("sheet(0, 0, 0)", "cell(0, 0, 1) = -12", "cell(0, -1, 1) = -12");
    }

    /** "BAD: no such SHEET; -11; -12." */
    private static void cellsRefuseInOrder() {
        runs.refused(Runs.HOUSE, -2, "cell(4, -1, 0)", "cell(-1, 40, 0)");
        runs.refused(Runs.HOUSE, -11, "cell(2, 0, 0)", "cell(2, -1, 0)", "cell(2, 40, 0)", "cell(2, MOST, 0)");
    }

    /** How a number on a SHEET of a sort is taken: for ROOM 3, for NONE. */
    private static void kept(int sort, String v, boolean isThree, boolean isNone) {
        runs.run("row 0 " + sort + ": " + v, "from(0, 0) = " + (isNone ? 100 : 0), "stay(3, 1)", "from(0, 0) = " + (isThree ? 100 : 0));
    }

    /** "(of bytes .. its lowest 8 .. bits)" */
    private static void bytesKeepEightBits() {
        kept(0, "3", true, false);
        kept(0, "-1", false, true);
        kept(0, "255", false, true);
        kept(0, "256", false, false);
        kept(0, "259", true, false);
        kept(0, "-253", true, false);
        kept(0, "-257", false, true);
        kept(0, "131", false, false);
        kept(0, "67", false, false);
        kept(0, "127", false, false);
        kept(0, "MOST", false, true);
        kept(0, "LEAST", false, false);
        kept(0, "65539", true, false);
        runs.run("row 0 0: 256", "stay(0, 1)", "from(0, 0) = 100", "row 0 0: LEAST", "from(0, 0) = 100", "row 0 0: 128", "from(0, 0) = 0");
    }

    /** "(of .. shorts its lowest .. 16 bits)" */
    private static void shortsKeepSixteenBits() {
        kept(1, "3", true, false);
        kept(1, "-1", false, true);
        kept(1, "255", false, false);
        kept(1, "259", false, false);
        kept(1, "65535", false, true);
        kept(1, "65536", false, false);
        kept(1, "65539", true, false);
        kept(1, "-65533", true, false);
        kept(1, "-65537", false, true);
        kept(1, "32771", false, false);
        kept(1, "16387", false, false);
        kept(1, "MOST", false, true);
        kept(1, "LEAST", false, false);
        runs.run("row 0 1: 65536", "stay(0, 1)", "from(0, 0) = 100", "row 0 1: LEAST", "from(0, 0) = 100", "row 0 1: 32768", "from(0, 0) = 0", "row 0 1: 256", "from(0, 0) = 0");
    }

    private static void intsKeepAll() {
        kept(2, "3", true, false);
        kept(2, "-1", false, true);
        kept(2, "259", false, false);
        kept(2, "65535", false, false);
        kept(2, "65539", false, false);
        kept(2, "MOST", false, false);
        kept(2, "LEAST", false, false);
        runs.run("row 0 2: 256", "stay(0, 1)", "from(0, 0) = 0", "row 0 2: 65536", "from(0, 0) = 0", "row 0 2: LEAST", "from(0, 0) = 0");
    }

    /** n of 0, up to the place behind the last item. */
    private static void copiesOfNone() {
        runs.runOn(Runs.HOUSE, "copy(0, 0, 0, 0, 0) = 0", "copy(0, 6, 0, 6, 0) = 0", "copy(0, 7, 0, 0, 0) = -12", "copy(0, 0, 0, 7, 0) = -12", "copy(0, -1, 0, 0, 0) = -12", "copy(0, 0, 0, -1, 0) = -12");
        runs.onlyAsks(Runs.HOUSE, "copy(0, 0, 0, 3, 0)", "copy(0, 6, 0, 6, 0)", "copy(1, 0, 1, 4, 0)", "copy(3, 3, 3, 0, 0)");
        runs.run("sheet(0, 0, 0)", "sheet(1, 0, 0)", "copy(0, 0, 1, 0, 0) = 0", "copy(0, 0, 0, 0, 0) = 0", "copy(0, 0, 1, 0, 1) = -12", "copy(0, 1, 1, 0, 0) = -12");
    }

    /** "n numbers of a SHEET, from item i on, come to another one's item j on .. : n." */
    private static void copiesOfAll() {
        for (int sort = 0; sort < 3; sort++) {
            String[] made = {"stay(1, 1)", "stay(2, 1)", "stay(3, 1)", "stay(4, 50)", "row 0 " + sort + ": 1 2 3 4", "row 1 " + sort + ": 4 4 4 4"};
            runs.runOn(made, "copy(0, 0, 1, 0, 4) = 4", "from(1, 1) = 0", "from(0, 1) = 0");
            runs.runOn(made, "copy(0, 3, 1, 0, 1) = 1", "from(1, 1) = 3", "copy(0, 0, 1, 3, 1) = 1", "from(1, 1) = 50", "copy(0, 0, 1, 1, 3) = 3", "from(1, 1) = 52");
            runs.runOn(made, "copy(0, 2, 1, 0, 2) = 2", "from(1, 1) = 2");
            runs.run("sheet(0, " + sort + ", 40)", "sheet(1, " + sort + ", 40)", "cell(0, 39, 5)", "copy(0, 0, 1, 0, 40) = 40", "sheet(2, " + sort + ", 1)", "copy(1, 39, 2, 0, 1) = 1", "stay(5, 1)", "from(2, 0) = 100");
        }
    }

    /** "(as they were)": a SHEET to itself, to places behind, to places ahead. */
    private static void copiesOverThemselves() {
        for (int sort = 0; sort < 3; sort++) {
            String[] made = {"stay(1, 1)", "stay(1, 1)", "stay(2, 1)", "stay(3, 1)", "stay(4, 1)", "stay(0, 50)", "row 0 " + sort + ": 1 2 3 4 5"};
            runs.runOn(made, "copy(0, 0, 0, 1, 4) = 4", "from(0, 1) = 0");
            runs.runOn(made, "copy(0, 1, 0, 0, 4) = 4", "sheet(1, " + sort + ", 3)", "copy(0, 0, 1, 0, 3)", "from(1, 1) = 2", "copy(0, 4, 1, 0, 1)", "copy(0, 3, 1, 1, 1)", "copy(0, 3, 1, 2, 1)", "stay(5, 2)", "stay(5, 1)", "from(1, 1) = 55");
            runs.runOn(made, "copy(0, 0, 0, 0, 5) = 5", "sheet(1, " + sort + ", 4)", "copy(0, 0, 1, 0, 4)", "from(1, 1) = 1");
        }
    }

    /** "-12 (also with n below 0)" */
    private static void copiesOutside() {
        String[] made = {"row 0 0: 1 2 3 4", "row 1 0: 5 6 7"};
        runs.refused(made, -12, "copy(0, 0, 1, 0, -1)", "copy(0, 0, 1, 0, LEAST)", "copy(0, 1, 1, 1, -1)", "copy(0, -1, 1, 0, 1)", "copy(0, 0, 1, -1, 1)", "copy(0, 0, 1, 0, 4)", "copy(1, 0, 0, 0, 4)", "copy(0, 2, 1, 0, 3)", "copy(0, 0, 1, 1, 3)",
            "copy(0, 4, 1, 0, 1)", "copy(0, 0, 1, 3, 1)", "copy(0, 5, 1, 0, 0)", "copy(0, 0, 1, 4, 0)", "copy(0, 0, 0, 1, 4)", "copy(0, 1, 0, 0, 4)");
        runs.refused(made, -12, "copy(0, MOST, 1, 0, 1)", "copy(0, 0, 1, MOST, 1)", "copy(0, 0, 1, 0, MOST)", "copy(0, 1, 1, 1, MOST)", "copy(0, MOST, 1, MOST, MOST)", "copy(0, LEAST, 1, 0, 1)", "copy(0, 0, 1, LEAST, 1)", "copy(0, LEAST, 1, LEAST, LEAST)", "copy(0, LEAST, 1, 0, MOST)", "copy(0, 2, 1, 2, LEAST)");
        runs.runOn(made, "copy(0, 0, 1, 0, 3) = 3", "copy(0, 1, 1, 0, 3) = 3", "copy(0, 3, 1, 2, 1) = 1", "copy(0, 4, 1, 3, 0) = 0");
    }

    /** "BAD: no such SHEET; -11; -13: they are of unlike sorts; -12" */
    private static void copiesRefuseInOrder() {
        runs.refused(Runs.HOUSE, -2, "copy(4, 0, 2, 0, -1)", "copy(2, 0, 4, 0, -1)", "copy(-1, 0, 0, 0, 0)", "copy(1, 0, -1, 0, 0)");
        runs.refused(Runs.HOUSE, -11, "copy(2, 0, 0, 0, 1)", "copy(0, 0, 2, 0, 1)", "copy(2, 0, 2, 0, 0)", "copy(2, -1, 1, 0, -1)", "copy(1, 0, 2, -1, -1)", "copy(2, 0, 0, 0, 0)");
        runs.refused(Runs.HOUSE, -13, "copy(0, 0, 1, 0, 1)", "copy(1, 0, 0, 0, 1)", "copy(0, 0, 3, 0, 1)", "copy(3, 0, 1, 0, 1)", "copy(0, -1, 1, 0, 1)", "copy(0, 0, 1, 99, 1)", "copy(0, 0, 1, 0, -1)", "copy(0, 0, 1, 0, 0)");
    }

    private static void copiesKeepNumbers() {
        runs.run("row 0 0: 255", "row 1 0: 0", "copy(0, 0, 1, 0, 1)", "from(1, 0) = 100", "row 0 1: 65535", "row 1 1: 0", "copy(0, 0, 1, 0, 1)", "from(1, 0) = 100", "row 0 2: LEAST", "row 1 2: -1", "copy(0, 0, 1, 0, 1)", "from(1, 0) = 0");
    }

    /** "n of them (0 .. 4)" */
    private static void maidsOfNone() {
        runs.run("row 0 0: 1 2 3 2 3 4 3 4 5 4 5 6", "maids(0, 0, 0, 0) = 0", "count(0) = 0", "maids(0, 0, 0, 4) = 4", "count(0) = 4", "told(0, 6) = 1", "told(0, 4) = 2", "told(0, 5) = 3", "told(3, 6) = 4", "told(3, 4) = 5", "told(3, 5) = 6", "told(3, 7) = 0");
        runs.bad("maids(0, 0, 0, -1)", "maids(0, 0, 0, 5)", "maids(0, 0, 0, LEAST)", "maids(0, 0, 0, MOST)");
    }

    /** "from one on, three by three (as of maid())" */
    private static void maidsFromOneOn() {
        for (int sort = 0; sort < 3; sort++) {
            String[] made = {"row 0 " + sort + ": 9 9 5 9 7 0 0 0 3"};
            runs.runOn(made, "maids(0, " + sort + ", 2, 1) = 1", "told(0, 6) = 5", "told(0, 4) = 9", "told(0, 5) = 7", "count(0) = 1");
            runs.runOn(made, "maids(0, " + sort + ", 5, 1) = 1", "told(0, 6) = 0", "told(0, 4) = 0", "told(0, 5) = 0");
            runs.runOn(made, "maids(0, " + sort + ", 6, 1) = 1", "told(0, 5) = 3", "maids(0, " + sort + ", 2, 2) = 2", "told(1, 5) = 7", "told(2, 5) = 0");
        }
    }

    /** "how many came (others are left out)": those that maid() refuses, BAD or FULL. */
    private static void maidsThatAreLeftOut() {
        runs.run("row 0 2: 6 0 0 0 10 0 0 0 8 5 9 7", "maids(0, 2, 0, 4) = 1", "count(0) = 1", "told(0, 6) = 5");
        runs.run("row 0 2: -1 0 0 0 -1 0 0 0 -1 LEAST MOST 0", "maids(0, 2, 0, 4) = 0", "count(0) = 0");
        runs.run("row 0 1: 1 1 1 2 2 2 3 3 3 4 4 4", "maid(0, 0, 0)", "maid(0, 0, 0)", "maid(0, 0, 0)", "maids(0, 1, 0, 4) = 1", "told(3, 6) = 1", "count(0) = 4", "maids(0, 1, 0, 4) = 0", "maids(0, 1, 9, 1) = 0", "count(0) = 4");
        runs.run("row 0 0: 255 0 0 256 0 0", "maids(0, 0, 0, 2) = 1", "told(0, 6) = 0");
    }

    /** "-12": the last that is taken, the first that is outside. */
    private static void maidsOutside() {
        String[] made = {"row 0 0: 1 1 1 1 1 1 1 1 1 1 1 1"};
        runs.runOn(made, "maids(0, 0, 9, 1) = 1");
        runs.runOn(made, "maids(0, 0, 6, 2) = 2");
        runs.refused(made, -12, "maids(0, 0, 10, 1)", "maids(0, 0, 11, 1)", "maids(0, 0, 12, 1)", "maids(0, 0, -1, 1)", "maids(0, 0, -3, 2)", "maids(0, 0, MOST, 1)", "maids(0, 0, MOST, 4)", "maids(0, 0, LEAST, 4)");
        runs.refused(new String[] {"sheet(0, 0, 0)"}, -12, "maids(0, 0, 0, 1)");
        runs.refused(new String[] {"sheet(0, 0, 2)"}, -12, "maids(0, 0, 0, 1)", "maids(0, 0, 0, 4)");
        runs.runOn(with40(), "maids(0, 2, 37, 1) = 1", "maids(0, 2, 38, 1) = -12", "count(0) = 1", "maids(0, 2, 34, 2) = 2");
    }

    private static String[] with40() {
        return new String[] {"sheet(0, 2, 40)"};
    }

    /** "-12: what stood ahead came." */
    private static void maidsThatStoodAhead() {
        runs.run("row 0 0: 1 2 3 2 3 4 3 4", "maids(0, 0, 0, 3) = -12", "count(0) = 2", "told(0, 6) = 1", "told(1, 6) = 2", "maids(0, 0, 3, 2) = -12", "count(0) = 3", "told(2, 6) = 2", "told(3, 6) = -2");
        runs.run("row 0 0: 1 2 3 9 9 9", "maids(0, 0, 0, 4) = -12", "count(0) = 1", "maids(0, 0, 0, 2) = 1", "count(0) = 2");
        runs.runOn(Runs.FULL_HOUSE, "row 0 0: 1 2 3", "maids(0, 0, 0, 2) = -12", "count(0) = 4");
    }

    /** "BAD: no such SHEET, sort, n; -13; -11; -12" */
    private static void maidsRefuseInOrder() {
        runs.bad("maids(0, -1, 0, 1)", "maids(0, 3, 0, 1)", "maids(0, LEAST, 0, 1)", "maids(0, MOST, 0, 1)", "maids(2, 3, 0, 1)", "maids(2, 0, 0, 5)", "maids(1, 0, -1, -1)", "maids(4, 0, 0, 1)");
        runs.refused(Runs.HOUSE, -13, "maids(0, 1, 0, 1)", "maids(0, 2, 99, 4)", "maids(1, 0, 0, 1)", "maids(3, 0, -1, 1)", "maids(1, 2, 0, 0)");
        runs.refused(Runs.HOUSE, -11, "maids(2, 0, 0, 1)", "maids(2, 1, -1, 4)", "maids(2, 2, 99, 4)", "maids(2, 0, 0, 0)");
    }

    /** "A MAID taken for one of KIND k (0 .. 5), or one under that one (also by others between): her NUMBER." */
    private static void takenForEachKind() {
        int[][] under = {{0}, {0, 1}, {0, 2}, {0, 1, 3}, {0, 2, 4}, {0, 5}};
        for (int kind = 0; kind < 6; kind++) {
            for (int k = 0; k < 6; k++) {
                long want = -13;
                for (int u : under[kind]) {
                    want = u == k ? 9 - kind : want;
                }
                runs.run("maid(" + kind + ", " + (9 - kind) + ", 0)", "taken(0, " + k + ") = " + want);
            }
        }
        runs.run("maid(0, 0, 0)", "maid(0, 9, 0)", "taken(0, 0) = 0", "taken(1, 0) = 9", "set(4, 1, 0)", "taken(1, 0) = 0");
        runs.refused(Runs.HOUSE, -13, "taken(0, 2)", "taken(0, 5)", "taken(1, 1)", "taken(2, 1)", "taken(2, 5)");
        runs.onlyAsks(Runs.HOUSE, "taken(0, 0)", "taken(0, 3)", "taken(2, 2)");
    }

    /** "BAD: k; -11: no such MAID; -13." */
    private static void takenRefusesInOrder() {
        runs.bad("taken(0, -1)", "taken(0, 6)", "taken(0, LEAST)", "taken(0, MOST)", "taken(9, 6)", "taken(-1, -1)");
        runs.refused(new String[0], -11, "taken(0, 0)", "taken(-1, 5)");
        runs.refused(Runs.HOUSE, -11, "taken(3, 0)", "taken(-1, 0)", "taken(LEAST, 5)", "taken(MOST, 5)");
        runs.refused(Runs.FULL_HOUSE, -11, "taken(4, 0)", "taken(-1, 5)");
        runs.runOn(Runs.FULL_HOUSE, "taken(3, 5) = -13", "taken(3, 3) = 5", "taken(0, 0) = 0");
    }
}
