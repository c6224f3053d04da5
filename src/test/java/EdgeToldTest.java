/** The edges of what was told, is drawn, is kept, is counted: terms 2 (TOLD .. AN IMAGE), promises 21 to 28. */
public final class EdgeToldTest {
    private static final Due due = new Due("EdgeToldTest");
    private static final Runs runs = new Runs(due);
    /** He is in 0 in MINUTES 0 .. 49, in 1 in 50 .. 98, in 2 in MINUTE 99, then in 0 again. */
    private static final String[] HUNDRED = {"stay(0, 50)", "stay(1, 49)", "stay(2, 1)"};

    public static void main(String[] args) {
        fromTheFirstMinute();
        fromTheLastMinute();
        fromAMinuteThatIsNone();
        fromBehindTheMorning();
        fromOfAnEmptyRow();
        fromOfFortyMinutes();
        fromWhereHeIsOut();
        fromOfRoomsThatAreNone();
        fromRefuses();
        doorOfAnEmptyRow();
        doorOfFortyMinutes();
        doorOfTheFirstMinute();
        doorOnAWay();
        kindsAreBits();
        numbersAreBits();
        beginsAreBits();
        textsAreBits();
        doorRefuses();
        filmOfMinutes();
        filmOfTheMaster();
        filmMakesARowOfBytes();
        filmRefuses();
        drawnMinutes();
        drawnOfNoStays();
        chanceOfSeeds();
        chanceOfAllMaids();
        chanceInLowestTerms();
        chanceRefuses();
        noImage();
        anImageOfNothing();
        anImageOfAll();
        theLastImageIsKept();
        maidsThatCameSinceGo();
        whatAnImageDoesNotKeep();
        counts();
        askingChangesNothing();
        due.end();
    }

    private static String[] with(String[] made, String... more) {
        String[] all = new String[made.length + more.length];
        System.arraycopy(made, 0, all, 0, made.length);
        System.arraycopy(more, 0, all, made.length, more.length);
        return all;
    }

    /** "FROM (0 .. 99): how many, the least" */
    private static void fromTheFirstMinute() {
        runs.runOn(HUNDRED, "row 0 0: 0 0", "from(0, 0) = 49", "from(0, 1) = 0", "row 0 0: 0 1", "from(0, 0) = 1", "from(0, 1) = 49", "row 0 0: 0", "from(0, 0) = 50", "from(0, 1) = 0");
    }

    private static void fromTheLastMinute() {
        runs.runOn(HUNDRED, "row 0 0: 2", "from(0, 0) = 1", "from(0, 1) = 99", "row 0 0: 1 2", "from(0, 0) = 1", "from(0, 1) = 98", "row 0 0: 1", "from(0, 0) = 49", "from(0, 1) = 50");
    }

    /** In MINUTE 100 he would be in 2: that is no FROM. */
    private static void fromAMinuteThatIsNone() {
        String[] made = {"stay(0, 50)", "stay(1, 50)", "stay(2, 1)"};
        runs.runOn(made, "row 0 0: 2", "from(0, 0) = 0", "from(0, 1) = -1", "row 0 0: 1 2", "from(0, 0) = 1", "from(0, 1) = 99", "row 0 0: 1 2 0", "from(0, 0) = 1");
    }

    /** "had he been so many MINUTES on his ROUND ahead": the ROUND goes on behind MINUTE 99. */
    private static void fromBehindTheMorning() {
        runs.runOn(HUNDRED, "row 0 0: 2 0", "from(0, 0) = 1", "from(0, 1) = 99", "row 0 0: 1 2 0 0 0", "from(0, 1) = 98", "row 0 0: 2 1", "from(0, 0) = 0", "from(0, 1) = -1");
        // in 7 in MINUTES 138 .. 140 alone: the last of 40 from 99 on
        String[] made = {"stay(0, 50)", "stay(1, 50)", "stay(2, 38)", "stay(7, 3)", "sheet(0, 2, 40)", "cell(0, 0, 1)"};
        String[] row = new String[39];
        for (int i = 1; i < 39; i++) {
            row[i - 1] = "cell(0, " + i + ", 2)";
        }
        row[38] = "cell(0, 39, 7)";
        runs.runOn(with(made, row), "from(0, 0) = 1", "from(0, 1) = 99", "cell(0, 39, 2)", "from(0, 0) = 0");
    }

    /** None is told: it is so from each MINUTE. */
    private static void fromOfAnEmptyRow() {
        runs.runOn(HUNDRED, "sheet(0, 0, 0)", "from(0, 0) = 100", "from(0, 1) = 0", "sheet(3, 2, 0)", "from(3, 0) = 100", "from(3, 1) = 0");
        runs.run("sheet(0, 1, 0)", "from(0, 0) = 100", "from(0, 1) = 0");
    }

    /** "(40 at most ..)": each of them is looked at. */
    private static void fromOfFortyMinutes() {
        String[] made = {"stay(3, 50)", "sheet(1, 0, 40)"};
        String[] row = new String[40];
        for (int i = 0; i < 40; i++) {
            row[i] = "cell(1, " + i + ", 3)";
        }
        runs.runOn(with(made, row), "from(1, 0) = 100", "cell(1, 39, 4)", "from(1, 0) = 0", "from(1, 1) = -1", "cell(1, 39, 3)", "cell(1, 0, 4)", "from(1, 0) = 0");
    }

    /** "NONE: out" */
    private static void fromWhereHeIsOut() {
        runs.run("row 0 0: -1", "from(0, 0) = 100", "from(0, 1) = 0", "row 0 1: -1 -1", "from(0, 0) = 100", "row 0 2: -1 -1 -1", "from(0, 0) = 100", "row 0 2: -1 0", "from(0, 0) = 0", "from(0, 1) = -1",
            "row 0 0: 0", "from(0, 0) = 0", "row 0 0: -1", "stay(0, 1)", "from(0, 0) = 0", "from(0, 1) = -1");
    }

    private static void fromOfRoomsThatAreNone() {
        runs.run("stay(0, 1)", "row 0 2: 8", "from(0, 0) = 0", "row 0 2: -2", "from(0, 0) = 0", "row 0 2: MOST", "from(0, 0) = 0", "row 0 2: LEAST", "from(0, 0) = 0");
        runs.run("row 0 2: -2", "from(0, 0) = 0");
    }

    /** "BAD: SHEET, what; -11." */
    private static void fromRefuses() {
        runs.bad("from(-1, 0)", "from(4, 0)", "from(LEAST, 0)", "from(MOST, 1)", "from(0, -1)", "from(0, 2)", "from(0, LEAST)", "from(0, MOST)", "from(2, 2)", "from(4, 2)");
        runs.refused(new String[0], -11, "from(0, 0)", "from(3, 1)");
        runs.refused(Runs.HOUSE, -11, "from(2, 0)", "from(2, 1)");
    }

    /** None is told: it is so, of all KINDS, NUMBERS, BEGINS, TEXTS that there are. */
    private static void doorOfAnEmptyRow() {
        runs.run("maid(3, 4, 5)", "sheet(0, 1, 0)", "door(0, 0, 0) = 1", "door(0, 0, 1) = 63", "door(0, 0, 2) = 1023", "door(0, 0, 3) = 255", "door(0, 0, 4) = 1");
        runs.runOn(Runs.FULL_TEXTS, "sheet(0, 0, 0)", "door(0, 0, 4) = 63");
    }

    /** "as MINUTES 0, 1, .. end (40 at most)": each of them is looked at. */
    private static void doorOfFortyMinutes() {
        String[] made = {"maid(0, 0, 3)", "sheet(1, 0, 40)"};
        String[] row = new String[40];
        for (int i = 0; i < 40; i++) {
            row[i] = "cell(1, " + i + ", 3)";
        }
        runs.runOn(with(made, row), "door(1, 0, 0) = 1", "cell(1, 39, 2)", "door(1, 0, 0) = 0", "door(1, 0, 1) = 0", "door(1, 0, 3) = 0", "cell(1, 39, 3)", "door(1, 0, 3) = 8", "cell(1, 0, 2)", "door(1, 0, 0) = 0");
    }

    private static void doorOfTheFirstMinute() {
        runs.run("maid(0, 0, 0)", "row 0 2: 0", "door(0, 0, 0) = 1", "row 0 2: 1", "door(0, 0, 0) = 0", "row 0 2: -1", "door(0, 0, 0) = 0", "row 0 2: 8", "door(0, 0, 3) = 0", "row 0 2: LEAST", "door(0, 0, 1) = 0");
    }

    /** "(On a way she is in the ROOM from which she goes.)" */
    private static void doorOnAWay() {
        runs.run("tape: steps 3;does 1;costs 1;", "text()", "force(1)", "maid(0, 0, 0)", "list(0, 4)", "row 0 0: 0 0 0 4", "door(0, 0, 0) = 1", "row 0 0: 0 0 4", "door(0, 0, 0) = 0", "row 0 0: 0 0 0 0", "door(0, 0, 0) = 0",
            "row 0 0: 0 0 0 4 4 4", "door(0, 0, 0) = 1");
    }

    /** "KINDS (bits 0 .. 5)": how long each takes of 4, number 9: MAID 4, QUICK 1, QUIET 5, BOLD 1, SLOW 10, NEW 8. */
    private static void kindsAreBits() {
        String[] made = {"tape: steps 4;does 1;costs 1;", "text()", "force(1)", "maid(2, 9, 0)", "list(0, 1)"};
        runs.runOn(made, "row 0 0: 0 0 0 0 1", "door(0, 0, 1) = 1", "door(0, 0, 0) = 0", "row 0 0: 0 0 0 0 0 1", "door(0, 0, 1) = 4", "door(0, 0, 0) = 1", "row 0 0: 0 1", "door(0, 0, 1) = 10",
            "row 0 0: 0 0 0 0 0 0 0 0 1", "door(0, 0, 1) = 32", "row 0 0: 0 0 0 0 0 0 0 0 0 0 1", "door(0, 0, 1) = 16", "row 0 0: 0 0 1", "door(0, 0, 1) = 0", "told(0, 6) = 2");
        runs.runOn(made, "stay(1, 1)", "row 0 0: 0 1", "door(0, 0, 1) = 8", "row 0 0: 0 0", "door(0, 0, 1) = 55");
    }

    /** "NUMBERS (bits 0 .. 9)" */
    private static void numbersAreBits() {
        String[] made = {"tape: steps 9-number;does 1;costs 1;", "text()", "force(1)", "maid(0, 5, 0)", "list(0, 1)"};
        runs.runOn(made, "row 0 0: 0 0 0 0 0 0 0 0 0 1", "door(0, 0, 2) = 1", "row 0 0: 0 0 0 0 0 0 0 0 1", "door(0, 0, 2) = 2", "row 0 0: 0 0 0 0 1", "door(0, 0, 2) = 32", "door(0, 0, 0) = 1",
            "row 0 0: 0 0 1", "door(0, 0, 2) = 128", "row 0 0: 0 1", "door(0, 0, 2) = 768", "told(0, 4) = 5");
        String[] up = {"tape: steps number;does 1;costs 1;", "text()", "force(1)", "maid(0, 5, 0)", "list(0, 1)"};
        runs.runOn(up, "row 0 0: 0 0 0 0 0 0 0 0 0 1", "door(0, 0, 2) = 512", "row 0 0: 0 1", "door(0, 0, 2) = 3");
    }

    /** "BEGINS (bits 0 .. 7)" */
    private static void beginsAreBits() {
        for (int room = 0; room < 8; room++) {
            runs.run("maid(0, 5, 3)", "row 0 0: " + room, "door(0, 0, 3) = " + (1 << room), "told(0, 5) = 3");
        }
        runs.run("maid(0, 5, 3)", "row 0 0: 8", "door(0, 0, 3) = 0", "row 0 0: 0 1", "door(0, 0, 3) = 0");
    }

    /** "TEXTS (bits), were they THE RULE": of those that there are. */
    private static void textsAreBits() {
        runs.run("maid(0, 5, 0)", "list(0, 1)", "row 0 0: 0 1", "door(0, 0, 4) = 1", "row 0 0: 0 0 1", "door(0, 0, 4) = 0", "tape: steps 2;does 1;costs 1;", "door(0, 0, 4) = 0", "text()", "door(0, 0, 4) = 2", "door(0, 0, 0) = 0", "count(5) = 0");
        // TEXT k of FULL_TEXTS takes k MINUTES, TEXT 0 takes 1 too
        String[] more = {"set(2, 0, 7)", "set(5, 0, 0)", "list(0, 1)"};
        runs.runOn(with(Runs.FULL_TEXTS, more), "row 0 0: 0 1", "door(0, 0, 4) = 3", "row 0 0: 0 0 1", "door(0, 0, 4) = 4", "row 0 0: 0 0 0 0 0 1", "door(0, 0, 4) = 32", "door(0, 0, 0) = 0", "force(5)", "door(0, 0, 0) = 1");
    }

    /** "BAD: SHEET, MAID, what; -11." */
    private static void doorRefuses() {
        runs.refused(new String[0], -2, "door(0, 0, 0)", "door(4, 0, 0)", "door(0, -1, 0)");
        runs.refused(Runs.HOUSE, -2, "door(-1, 0, 0)", "door(4, 0, 0)", "door(MOST, 0, 0)", "door(LEAST, 0, 0)", "door(0, -1, 0)", "door(0, 3, 0)", "door(0, MOST, 0)", "door(0, LEAST, 0)", "door(0, 0, -1)", "door(0, 0, 5)", "door(0, 0, MOST)", "door(0, 0, LEAST)");
        runs.refused(Runs.HOUSE, -2, "door(2, 3, 0)", "door(2, 0, 5)", "door(2, -1, 0)");
        runs.refused(Runs.HOUSE, -11, "door(2, 0, 0)", "door(2, 2, 4)");
        runs.refused(Runs.FULL_HOUSE, -2, "door(0, 4, 0)", "door(0, 3, 5)");
        runs.refused(Runs.FULL_HOUSE, -11, "door(0, 3, 0)", "door(3, 0, 4)");
    }

    /** "the ROOMS in which a MAID .. is as the first n MINUTES (0 .. 40) end" */
    private static void filmOfMinutes() {
        String[] made = {"maid(0, 0, 0)", "list(0, 1)"};
        runs.runOn(made, "film(0, 0, 0) = 0", "cell(0, 0, 0) = -12", "film(0, 0, 1) = 1", "door(0, 0, 3) = 1", "cell(0, 1, 0) = -12", "cell(0, 0, 0) = 1", "film(0, 0, 40) = 40", "door(0, 0, 0) = 1", "cell(0, 40, 0) = -12", "cell(0, 39, 0) = 1", "door(0, 0, 0) = 0");
        // of the end of MINUTE 0, 1, ..: 0 1
        runs.runOn(made, "film(0, 0, 2)", "stay(0, 1)", "stay(1, 1)", "stay(2, 1)", "from(0, 1) = 0", "from(0, 0) = 34");
    }

    /** "(NONE: THE MASTER) .. (of him: in them ..)" */
    private static void filmOfTheMaster() {
        runs.run("stay(3, 1)", "stay(4, 1)", "stay(5, 50)", "film(0, -1, 0) = 0", "film(0, -1, 1) = 1", "from(0, 0) = 2", "from(0, 1) = 0", "film(0, -1, 3) = 3", "from(0, 0) = 2", "film(0, -1, 40) = 40", "from(0, 1) = 0");
        runs.run("film(3, -1, 40) = 40", "from(3, 0) = 100", "stay(0, 1)", "from(3, 0) = 0");
        runs.run("stay(7, 39)", "stay(0, 1)", "film(0, -1, 40)", "from(0, 0) = 3", "set(3, 0, 38)", "from(0, 0) = 0");
    }

    /** "A SHEET truly becomes .. (.. bytes)": whatever it was, as long as n. */
    private static void filmMakesARowOfBytes() {
        runs.runOn(Runs.HOUSE, "film(1, 0, 2) = 2", "maids(1, 0, 0, 0) = 0", "maids(1, 1, 0, 0) = -13", "cell(1, 2, 0) = -12", "film(2, 0, 3) = 3", "maids(2, 0, 0, 0) = 0", "cell(2, 3, 0) = -12", "film(3, -1, 5) = 5", "cell(3, 4, 0) = 1", "maids(3, 2, 0, 0) = -13");
    }

    /** "BAD": no such SHEET, MAID, n. */
    private static void filmRefuses() {
        runs.refused(Runs.HOUSE, -2, "film(-1, 0, 1)", "film(4, 0, 1)", "film(LEAST, 0, 1)", "film(MOST, 0, 1)", "film(0, -2, 1)", "film(0, 3, 1)", "film(0, LEAST, 1)", "film(0, MOST, 1)", "film(0, 0, -1)", "film(0, 0, 41)", "film(0, 0, LEAST)", "film(0, 0, MOST)", "film(0, -1, 41)", "film(0, -1, -1)");
        runs.refused(new String[0], -2, "film(0, 0, 1)", "film(0, -2, 1)", "film(4, -1, 1)", "film(0, -1, 41)");
        runs.refused(Runs.FULL_HOUSE, -2, "film(0, 4, 1)", "film(2, -2, 0)");
    }

    /** "(z >>> 9) % 50 and 1, z being z * 1103515245 + 12345 (an int; SEED at first) anew for each": seeds whose first is 1, is 50. */
    private static void drawnMinutes() {
        // SEED 0 draws 25, 20; 1: 28, 17; -1: 29, 15; 18: 50, 1; 61: 1, 11; the greatest int 25, 19; the least 29, 16
        String[] made = {"stay(0, 7)", "stay(7, 9)", "maid(0, 0, 0)"};
        runs.runOn(made, "drawn(0) = 132", "drawn(1) = 138", "drawn(-1) = 142", "drawn(18) = 171", "drawn(61) = 81", "drawn(MOST) = 134", "drawn(LEAST) = 140", "told(0, 3) = 7", "told(1, 3) = 9");
        // eight of them: SEED 0 draws 25, 20, 38, 45, 20, 25, 10, 6
        String[] eight = {"stay(0, 1)", "stay(1, 1)", "stay(2, 1)", "stay(3, 1)", "stay(4, 1)", "stay(5, 1)", "stay(6, 1)", "stay(7, 1)", "maid(0, 0, 3)"};
        runs.runOn(eight, "drawn(0) = 89", "set(5, 0, 2)", "drawn(0) = 110", "set(5, 0, 4)", "drawn(0) = 72", "drawn(1) = 96", "told(7, 3) = 1");
        runs.run("stay(0, 7)", "maid(0, 0, 0)", "drawn(5) = 172");
        // ALL MORNING: he comes to 7 in MINUTE 99 by SEED 157, in 100 by 28
        runs.runOn(FOUR_AHEAD, "drawn(157) = 73", "drawn(28) = 72");
    }

    private static void drawnOfNoStays() {
        runs.run("drawn(0) = 72", "drawn(LEAST) = 72", "drawn(MOST) = 72", "count(1) = 0", "maid(0, 0, 0)", "list(0, 0)", "drawn(1) = 63");
    }

    /** She in 7 is unseen, if the first four STAYS take 100 MINUTES or more. */
    private static final String[] FOUR_AHEAD = {"stay(0, 1)", "stay(1, 1)", "stay(2, 1)", "stay(3, 1)", "stay(7, 1)", "maid(0, 0, 7)"};

    private static void chance(int seed, int n, int above, int below) {
        runs.runOn(FOUR_AHEAD, "chance(" + seed + ", " + n + ", 0) = " + above, "chance(" + seed + ", " + n + ", 1) = " + below, "told(0, 3) = 1", "told(4, 3) = 1");
    }

    /** "IN n seeds (1 .. 20), SEED and each 1 more (an int)" */
    private static void chanceOfSeeds() {
        chance(0, 1, 1, 1);
        chance(5, 1, 0, 1);
        chance(5, 2, 0, 1);
        chance(5, 3, 1, 3);
        chance(0, 20, 9, 20);
        chance(5, 20, 9, 20);
        chance(5, 19, 9, 19);
        chance(-10, 19, 8, 19);
        // from the greatest int on to the least
        chance(Integer.MAX_VALUE, 1, 1, 1);
        chance(Integer.MAX_VALUE, 2, 1, 1);
        chance(Integer.MAX_VALUE, 4, 3, 4);
        chance(Integer.MAX_VALUE, 20, 11, 20);
        chance(Integer.MAX_VALUE - 9, 20, 9, 20);
        chance(Integer.MIN_VALUE, 3, 2, 3);
        chance(Integer.MIN_VALUE, 20, 11, 20);
        // he comes to her in MINUTE 99, which is the last; in 100, which is none
        chance(157, 1, 0, 1);
        chance(28, 1, 1, 1);
    }

    /** "those by which none is SEEN": of all MAIDS that there are, the first, the last; of none that there was. */
    private static void chanceOfAllMaids() {
        String[] made = {"stay(0, 1)", "maid(0, 0, 1)", "maid(0, 0, 1)", "maid(0, 0, 1)", "maid(0, 0, 1)"};
        runs.runOn(made, "chance(3, 20, 0) = 1", "set(5, 0, 0)", "chance(3, 20, 0) = 0", "set(5, 0, 7)", "chance(3, 20, 0) = 1", "set(5, 3, 0)", "chance(3, 20, 0) = 0", "chance(3, 20, 1) = 1");
        runs.run("stay(0, 1)", "image()", "maid(0, 0, 0)", "chance(3, 20, 0) = 0", "morning(100, 20) = 100", "back() = 0", "chance(3, 20, 0) = 1", "morning(100, 1) = 0");
        runs.run("tape: steps 1;does 1;costs 0;", "text()", "force(1)", "stay(0, 1)", "maid(0, 0, 0)", "chance(3, 20, 0) = 0");
    }

    /** "part 0 above, 1 below the line, in lowest terms": none of n, all of n, what both can be divided by. */
    private static void chanceInLowestTerms() {
        chance(0, 8, 1, 4);
        chance(0, 12, 1, 4);
        chance(0, 14, 2, 7);
        chance(0, 10, 1, 5);
        chance(5, 6, 1, 3);
        chance(5, 18, 1, 2);
        chance(-10, 20, 2, 5);
        chance(-10, 18, 4, 9);
        for (int n = 1; n <= 20; n++) {
            runs.run("stay(0, 1)", "maid(0, 0, 0)", "chance(3, " + n + ", 0) = 0", "chance(3, " + n + ", 1) = 1", "set(5, 0, 1)", "chance(3, " + n + ", 0) = 1", "chance(3, " + n + ", 1) = 1");
        }
        runs.run("chance(3, 20, 0) = 1", "chance(3, 20, 1) = 1");
    }

    /** "NO: n, part." */
    private static void chanceRefuses() {
        runs.refused(Runs.HOUSE, NeverSeen.NO, "chance(0, 0, 0)", "chance(0, 21, 0)", "chance(0, -1, 1)", "chance(0, LEAST, 0)", "chance(0, MOST, 0)", "chance(0, 1, -1)", "chance(0, 1, 2)", "chance(0, 20, LEAST)", "chance(0, 20, MOST)");
        runs.refused(new String[0], NeverSeen.NO, "chance(0, 0, 0)", "chance(0, 21, 1)", "chance(0, 1, 2)");
    }

    /** "STATE: there is none." */
    private static void noImage() {
        runs.refused(new String[0], -3, "back()");
        runs.refused(Runs.FULL_HOUSE, -3, "back()");
        runs.refused(Runs.FULL_TEXTS, -3, "back()");
    }

    /** "AN IMAGE is kept: how many MAIDS." */
    private static void anImageOfNothing() {
        runs.run("image() = 0", "stay(0, 1)", "maid(0, 0, 0)", "list(0, 1)", "set(0, 0, 0)", "set(1, 7, 99)", "back() = 0", "count(0) = 0", "count(1) = 0", "count(2) = 3", "count(6) = 72", "master(0) = -1", "told(0, 4) = -2",
            "back() = 0", "maid(5, 4, 3) = 0", "told(0, 7) = 0", "stay(7, 2) = 1", "master(0) = 7");
    }

    /** "STAIRS, THE ROUND, WORK, NUMBERS, where MAIDS begin, LISTS, THE RULE" of a full house. */
    private static void anImageOfAll() {
        String[] made = with(Runs.FULL_HOUSE, "tape: steps 2;does 1;costs 1;", "text()", "force(1)", "set(0, 0, 1)", "set(1, 0, 0)", "set(1, 7, 99)", "image()",
            "force(0)", "set(0, 0, 2)", "set(1, 0, 4)", "set(1, 7, 5)", "set(2, 0, 5)", "set(2, 7, 5)", "set(3, 0, 9)", "set(3, 7, 9)", "set(4, 0, 9)", "set(4, 3, 9)", "set(5, 0, 6)", "set(5, 3, 6)", "clear(0)", "clear(3)", "list(0, 7)",
            "list(3, 6)", "list(3, 6)", "list(3, 6)", "list(3, 6)", "list(3, 6)");
        runs.runOn(made, "back() = 4", "count(0) = 4", "count(1) = 8", "count(5) = 1", "told(0, 0) = 1", "told(0, 1) = 0", "told(7, 1) = 99", "told(0, 2) = 0", "told(7, 2) = 7", "told(0, 3) = 1", "told(7, 3) = 8",
            "told(0, 4) = 0", "told(3, 4) = 5", "told(0, 5) = 0", "told(3, 5) = 3", "told(0, 7) = 5", "told(3, 7) = 5", "told(0, 10) = 0", "told(0, 14) = 4", "told(3, 10) = 3", "told(3, 14) = 1",
            "stay(0, 1) = -4", "maid(0, 0, 0) = -4", "list(3, 0) = -4");
    }

    private static void theLastImageIsKept() {
        runs.run("set(0, 0, 0)", "image() = 0", "set(0, 0, 1)", "maid(0, 0, 0)", "image() = 1", "set(0, 0, 2)", "back() = 1", "told(0, 0) = 1", "set(0, 0, 3)", "back() = 1", "told(0, 0) = 1");
        // what is changed behind back() isn't THE IMAGE's
        runs.run("maid(0, 1, 1)", "list(0, 4)", "stay(2, 2)", "image()", "back()", "set(4, 0, 9)", "clear(0)", "set(2, 0, 3)", "set(1, 1, 1)", "back() = 1", "told(0, 4) = 1", "told(0, 10) = 4", "told(0, 2) = 2", "told(1, 1) = 9");
    }

    /** "(MAIDS that came since go)" */
    private static void maidsThatCameSinceGo() {
        runs.run("maid(0, 1, 1)", "image() = 1", "maid(1, 2, 2)", "list(1, 5)", "maid(2, 3, 3)", "maid(3, 4, 4)", "maid(0, 0, 0) = -4", "back() = 1", "count(0) = 1", "told(1, 4) = -2", "morning(5, 11) = -2", "taken(1, 0) = -11", "clear(1) = -2",
            "maid(4, 5, 5) = 1", "told(1, 6) = 4", "told(1, 7) = 0", "told(1, 10) = -1", "image() = 2", "back() = 2", "told(1, 6) = 4");
    }

    /** No TEXT goes, nor does what is on THE TAPE, on a SHEET. */
    private static void whatAnImageDoesNotKeep() {
        runs.run("image()", "tape: steps 2;does 1;costs 1;", "text() = 1", "tape: step", "row 0 0: 3 3", "sheet(1, 2, 0)", "back() = 0", "count(3) = 2", "count(4) = 4", "stay(3, 1)", "from(0, 0) = 100", "cell(1, 0, 0) = -12", "cell(2, 0, 0) = -11", "force(1) = 0");
        runs.run("row 0 0: 3 3", "tape: abc", "image()", "sheet(0, -1, 0)", "text() = -100", "back() = 0", "cell(0, 0, 0) = -11", "count(4) = 0");
    }

    /** "How many: 0 MAIDS, 1 STAYS, 2 STAIRS, 3 TEXTS, 4 bytes of THE TAPE, 5 THE RULE, 6 WORK of all ROOMS. BAD." */
    private static void counts() {
        runs.run("count(0) = 0", "count(1) = 0", "count(2) = 3", "count(3) = 1", "count(4) = 0", "count(5) = 0", "count(6) = 72");
        runs.runOn(Runs.FULL_HOUSE, "count(0) = 4", "count(1) = 8");
        runs.runOn(Runs.FULL_TEXTS, "count(3) = 6", "count(4) = 160", "force(5)", "count(5) = 5");
        runs.run("set(0, 0, 0)", "count(2) = 0", "set(0, 0, 1)", "count(2) = 1", "set(0, 0, 2)", "count(2) = 2");
        runs.run("set(1, 0, 0)", "count(6) = 63", "set(1, 7, 99)", "count(6) = 153");
        runs.bad("count(-1)", "count(7)", "count(LEAST)", "count(MOST)");
    }

    private static void askingChangesNothing() {
        runs.onlyAsks(Runs.HOUSE, "from(0, 0)", "from(3, 0)", "door(0, 0, 0)", "door(1, 1, 1)", "door(3, 2, 2)", "door(0, 0, 3)", "door(0, 1, 4)", "drawn(5)", "chance(5, 20, 0)", "count(0)", "count(6)");
    }
}
