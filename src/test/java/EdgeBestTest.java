/** The edges of what would be best, told sentence by sentence: terms 2 (ALL MORNING), promises 17 to 20. */
public final class EdgeBestTest {
    private static final Due due = new Due("EdgeBestTest");
    private static final Runs runs = new Runs(due);
    private static final String LONG_WAYS = "tape: steps 9;does 1;costs 1;";

    public static void main(String[] args) {
        allMorningIsAHundredMinutes();
        bestOfAnEmptyList();
        bestOfOneRoom();
        roomsAsDigits();
        bestIsTheFirstOrder();
        bestIsTheLastOrder();
        bestOfLikeOnes();
        listsOfTheOthersStay();
        bestRefuses();
        beginInTheFirstRoom();
        beginInTheLastRoom();
        beginOfLikeOnes();
        beginRefuses();
        homeOfNobody();
        homeOfOne();
        homeIfLess();
        homeOfLikeOnes();
        homeOfTheLast();
        homeRefuses();
        stairsOfNobody();
        stairsWorthMore();
        stairsWorthLess();
        stairsOfAnyStairs();
        askingChangesNothing();
        due.end();
    }

    /** "ALL MORNING: 100 MINUTES": she does 1 in each of them, he comes in the last. */
    private static void allMorningIsAHundredMinutes() {
        runs.run("set(1, 0, 99)", "set(1, 4, 9)", "stay(7, 50)", "stay(7, 49)", "stay(0, 1)", "maid(0, 0, 0)", "list(0, 0)", "morning(99, 3) = 63", "morning(100, 3) = 64",
            "best(0, 1) = 64", "begin(0, 1) = 64", "home(1) = 64", "home(0) = -1", "stairs() = 0");
        // he would be with her in MINUTE 100, which is none
        String[] made = {"stay(7, 50)", "stay(7, 50)", "stay(0, 1)", "maid(0, 0, 0)"};
        runs.runOn(made, "morning(100, 3) = 72", "best(0, 1) = 72", "begin(0, 0) = 0", "begin(0, 1) = 72", "home(0) = -1", "home(1) = 72", "stairs() = 0");
        // in MINUTE 99, the last, he is
        runs.runOn(made, "set(3, 1, 49)", "morning(100, 3) = 73", "best(0, 1) = 73", "begin(0, 0) = 1", "home(0) = 0", "home(1) = 72", "stairs() = 0");
        // with STAIRS she would do the last of it in MINUTE 100
        runs.run("set(1, 0, 97)", "set(1, 4, 9)", "maid(0, 0, 0)", "list(0, 0)", "list(0, 4)", "stairs() = 1", "set(1, 0, 98)", "stairs() = 0");
    }

    /** "(what 0; 0: it is empty), DEAR then (1)" */
    private static void bestOfAnEmptyList() {
        runs.run("maid(0, 0, 0)", "best(0, 0) = 0", "best(0, 1) = 72", "stay(0, 1)", "best(0, 0) = 0", "best(0, 1) = 172");
        runs.run("maid(0, 0, 0)", "list(0, 3)", "clear(0)", "best(0, 0) = 0", "best(0, 1) = 72");
    }

    private static void bestOfOneRoom() {
        runs.run("maid(0, 0, 0)", "list(0, 0)", "best(0, 0) = 1", "best(0, 1) = 63", "clear(0)", "list(0, 7)", "best(0, 0) = 8", "best(0, 1) = 63");
    }

    /** "the ROOMS as digits, 1 more than each, the first the highest" */
    private static void roomsAsDigits() {
        runs.run("maid(0, 0, 0)", "list(0, 0)", "list(0, 0)", "list(0, 0)", "list(0, 0)", "list(0, 0)", "best(0, 0) = 11111");
        runs.run("maid(0, 0, 0)", "list(0, 7)", "list(0, 7)", "list(0, 7)", "list(0, 7)", "list(0, 7)", "best(0, 0) = 88888");
        runs.run("maid(0, 0, 0)", "list(0, 3)", "list(0, 7)", "best(0, 0) = 48", "list(0, 6)", "best(0, 0) = 487");
    }

    /** "of all orders of her LIST that by which DEAR .. is least": the first is the only one. */
    private static void bestIsTheFirstOrder() {
        runs.run(LONG_WAYS, "text()", "force(1)", "set(1, 0, 20)", "set(1, 1, 20)", "set(1, 2, 20)", "set(1, 3, 20)", "set(1, 4, 20)", "maid(0, 0, 4)",
            "list(0, 4)", "list(0, 0)", "list(0, 1)", "list(0, 2)", "list(0, 3)", "best(0, 0) = 51234", "best(0, 1) = 57", "morning(100, 3) = 57");
    }

    /** All the places the other way round: the last of 120 is the only one. */
    private static void bestIsTheLastOrder() {
        runs.run(LONG_WAYS, "text()", "force(1)", "set(1, 0, 20)", "set(1, 1, 20)", "set(1, 2, 20)", "set(1, 3, 20)", "set(1, 4, 20)", "maid(0, 0, 4)",
            "list(0, 3)", "list(0, 2)", "list(0, 1)", "list(0, 0)", "list(0, 4)", "best(0, 0) = 51234", "best(0, 1) = 57");
        runs.run(LONG_WAYS, "text()", "force(1)", "set(1, 0, 99)", "set(1, 1, 99)", "maid(0, 0, 0)", "list(0, 1)", "list(0, 0)", "best(0, 0) = 12");
    }

    /** "of like ones the first (by places of the LIST)" */
    private static void bestOfLikeOnes() {
        runs.run("maid(0, 0, 0)", "list(0, 2)", "list(0, 0)", "list(0, 1)", "best(0, 0) = 312", "best(0, 1) = 45");
        runs.run("maid(0, 0, 0)", "list(0, 1)", "list(0, 2)", "list(0, 0)", "best(0, 0) = 231", "best(0, 1) = 45");
        runs.run("set(1, 0, 0)", "set(1, 1, 0)", "set(1, 2, 0)", "set(1, 3, 0)", "set(1, 5, 0)", "maid(0, 0, 0)", "list(0, 5)", "list(0, 1)", "list(0, 3)", "list(0, 2)", "list(0, 0)", "best(0, 0) = 62431", "best(0, 1) = 27");
        // 0 ahead of both is better than between or behind; the others are like
        runs.run(LONG_WAYS, "text()", "force(1)", "set(1, 0, 80)", "maid(0, 0, 0)", "set(1, 1, 9)", "set(1, 4, 9)", "list(0, 4)", "list(0, 0)", "list(0, 1)", "best(0, 0) = 152", "clear(0)",
            "list(0, 1)", "list(0, 0)", "list(0, 4)", "best(0, 0) = 125");
    }

    /** The fifth ROOM on the others' LISTS counts as the first does. */
    private static void listsOfTheOthersStay() {
        String[] made = {"set(1, 0, 1)", "maid(0, 0, 3)", "maid(0, 0, 0)", "maid(0, 0, 3)", "list(1, 0)", "list(1, 0)", "list(1, 0)", "list(1, 0)", "list(1, 4)", "list(2, 3)"};
        runs.runOn(made, "morning(100, 3) = 45", "best(0, 1) = 45", "best(2, 1) = 45", "begin(0, 1) = 45", "home(1) = 45", "home(0) = -1", "drawn(1) = 45", "stairs() = 9");
        runs.runOn(made, "clear(1)", "list(1, 0)", "list(1, 0)", "list(1, 0)", "list(1, 0)", "list(1, 5)", "morning(100, 3) = 45", "best(0, 1) = 45", "morning(100, 54) = 9", "home(1) = 45");
        // AT HOME is MAID 0; those behind her have all of their LISTS
        runs.runOn(made, "stay(3, 1)", "set(5, 2, 4)", "clear(2)", "home(0) = 0", "home(1) = 54", "clear(1)", "home(1) = 64");
    }

    /** "BAD": no such MAID, what. */
    private static void bestRefuses() {
        runs.refused(new String[0], -2, "best(0, 0)", "best(-1, 0)", "best(0, 1)");
        runs.refused(Runs.HOUSE, -2, "best(3, 0)", "best(-1, 0)", "best(0, -1)", "best(0, 2)", "best(MOST, 1)", "best(LEAST, 1)", "best(0, MOST)", "best(0, LEAST)");
        runs.refused(Runs.FULL_HOUSE, -2, "best(4, 0)", "best(-1, 1)", "best(3, 2)", "best(3, -1)");
    }

    /** "BEGIN: the ROOM from which, did she begin there, it would be least" */
    private static void beginInTheFirstRoom() {
        runs.run(LONG_WAYS, "text()", "force(1)", "set(1, 0, 99)", "maid(0, 0, 7)", "list(0, 0)", "begin(0, 0) = 0", "begin(0, 1) = 63", "told(0, 5) = 7");
    }

    private static void beginInTheLastRoom() {
        runs.run(LONG_WAYS, "text()", "force(1)", "set(1, 7, 99)", "maid(0, 0, 0)", "list(0, 7)", "begin(0, 0) = 7", "begin(0, 1) = 63", "told(0, 5) = 0");
    }

    /** "of like ones the least" */
    private static void beginOfLikeOnes() {
        runs.run("maid(0, 0, 7)", "begin(0, 0) = 0", "begin(0, 1) = 72", "stay(0, 50)", "begin(0, 0) = 1", "begin(0, 1) = 72", "stay(1, 1)", "begin(0, 0) = 2");
        runs.run("stay(0, 1)", "stay(1, 1)", "stay(2, 1)", "stay(3, 1)", "stay(4, 1)", "stay(5, 1)", "stay(6, 1)", "stay(7, 1)", "maid(0, 0, 0)",
            "begin(0, 0) = 4", "begin(0, 1) = 84", "set(2, 4, 3)", "begin(0, 0) = 4", "begin(0, 1) = 72");
    }

    /** "BAD": no such MAID, what. */
    private static void beginRefuses() {
        runs.refused(new String[0], -2, "begin(0, 0)", "begin(-1, 0)", "begin(0, 1)");
        runs.refused(Runs.HOUSE, -2, "begin(3, 0)", "begin(-1, 0)", "begin(0, -1)", "begin(0, 2)", "begin(MOST, 1)", "begin(LEAST, 1)", "begin(0, MOST)", "begin(0, LEAST)");
        runs.refused(Runs.FULL_HOUSE, -2, "begin(4, 0)", "begin(-1, 1)", "begin(3, 2)", "begin(3, -1)");
    }

    /** "AT HOME (what 0; NONE), DEAR then (1; as now, if none)" */
    private static void homeOfNobody() {
        runs.run("home(0) = -1", "home(1) = 72", "stay(0, 50)", "home(0) = -1", "home(1) = 72");
    }

    private static void homeOfOne() {
        runs.run("stay(0, 50)", "maid(0, 0, 0)", "home(0) = 0", "home(1) = 72", "set(5, 0, 1)", "home(0) = -1", "home(1) = 72");
    }

    /** "the MAID without whom it would be least, if less than now": as much as now isn't less; nor is more. */
    private static void homeIfLess() {
        runs.run("maid(0, 0, 0)", "home(0) = -1", "home(1) = 72", "list(0, 0)", "home(0) = -1", "home(1) = 63");
        // what she does, 9, against what she costs: 9, then 10 shillings
        String[] made = {"maid(0, 0, 0)", "list(0, 0)", "stay(7, 50)", "stay(0, 9)", "stay(7, 50)"};
        runs.runOn(made, "morning(100, 1) = 9", "morning(100, 3) = 72", "home(0) = -1", "home(1) = 72", "set(3, 1, 10)", "morning(100, 3) = 73", "home(0) = 0", "home(1) = 72",
            "set(3, 1, 8)", "home(0) = -1", "home(1) = 71");
    }

    /** "of like ones the first" */
    private static void homeOfLikeOnes() {
        runs.run("stay(3, 1)", "maid(0, 0, 0)", "maid(0, 0, 3)", "maid(0, 0, 3)", "maid(0, 0, 3)", "home(0) = 1", "home(1) = 272", "set(5, 0, 3)", "home(0) = 0", "home(1) = 372", "set(5, 0, 0)", "set(5, 1, 0)", "home(0) = 2", "home(1) = 172");
    }

    private static void homeOfTheLast() {
        runs.run("stay(3, 1)", "maid(0, 0, 0)", "maid(0, 0, 1)", "maid(0, 0, 2)", "maid(0, 0, 3)", "home(0) = 3", "home(1) = 72", "count(0) = 4", "told(3, 5) = 3");
    }

    /** "BAD": what. */
    private static void homeRefuses() {
        runs.bad("home(-1)", "home(2)", "home(LEAST)", "home(MOST)");
    }

    /** "STAIRS' WORTH: DEAR with STAIRS 0 less DEAR with STAIRS 3" */
    private static void stairsOfNobody() {
        runs.run("stairs() = 0", "stay(0, 50)", "maid(0, 0, 0)", "stairs() = 0", "list(0, 3)", "stairs() = 0");
    }

    private static void stairsWorthMore() {
        runs.run("maid(0, 0, 0)", "list(0, 4)", "stairs() = 9", "set(1, 4, 99)", "stairs() = 98", "set(1, 4, 0)", "stairs() = 0");
    }

    /** Without STAIRS she never comes to where he is from MINUTE 2 on. */
    private static void stairsWorthLess() {
        runs.run("stay(7, 2)", "stay(4, 50)", "stay(4, 50)", "maid(0, 0, 0)", "list(0, 4)", "morning(100, 20) = 98", "stairs() = -98");
    }

    private static void stairsOfAnyStairs() {
        for (int stairs = 0; stairs < 4; stairs++) {
            runs.run("maid(0, 0, 0)", "list(0, 4)", "set(0, 0, " + stairs + ")", "stairs() = 9", "told(0, 0) = " + stairs);
        }
    }

    private static void askingChangesNothing() {
        runs.onlyAsks(Runs.HOUSE, "best(0, 0)", "best(0, 1)", "best(1, 0)", "best(2, 0)", "begin(0, 0)", "begin(1, 1)", "home(1)");
        runs.onlyAsks(Runs.FULL_HOUSE, "best(0, 0)", "best(3, 1)", "begin(3, 0)", "home(1)");
        runs.runOn(Runs.HOUSE, "stairs()", "told(0, 0) = 3", "home(0)", "count(0) = 3", "best(0, 0)", "told(0, 10) = 3", "told(0, 11) = 1", "begin(0, 0)", "told(0, 5) = 0");
    }
}
