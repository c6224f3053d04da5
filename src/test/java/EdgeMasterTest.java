/** The edges of the master's round, told sentence by sentence: terms 1 and 2 (THE ROUND, FREE), promises 12 to 15. */
public final class EdgeMasterTest {
    private static final Due due = new Due("EdgeMasterTest");
    private static final Runs runs = new Runs(due);

    public static void main(String[] args) {
        minutesAreAHundred();
        withoutStaysHeIsOut();
        firstAndLastMinuteOfAStay();
        roundGoesOnAnew();
        roundLongerThanAMorning();
        roundOfAMinute();
        freeToTheLastMinute();
        freeWhereHeIs();
        longestOfLikeOnes();
        longestToTheLastMinute();
        longestOfNone();
        longestOfAll();
        whatLongestTakes();
        neverBelow();
        whatNeverTakes();
        askingChangesNothing();
        due.end();
    }

    /** "MINUTES 0 .. 99" */
    private static void minutesAreAHundred() {
        runs.run("stay(3, 50)", "stay(4, 50)", "master(0) = 3", "master(99) = 4", "free(3, 0) = 0", "free(3, 99) = 1", "free(4, 99) = 0", "free(4, 0) = 50");
        runs.bad("master(-1)", "master(100)", "master(LEAST)", "master(MOST)");
        runs.bad("free(0, -1)", "free(0, 100)", "free(7, LEAST)", "free(7, MOST)");
    }

    /** "without STAYS he is out"; "BAD; NONE." */
    private static void withoutStaysHeIsOut() {
        runs.run("master(0) = -1", "master(50) = -1", "master(99) = -1", "master(100) = -2", "master(-1) = -2");
        runs.run("free(0, 0) = 100", "free(7, 99) = 1", "longest(3, 0) = 100", "longest(3, 1) = 0", "never(100) = 0");
        runs.run("stay(5, 1)", "master(0) = 5", "master(99) = 5");
    }

    /** "THE MASTER is in that of the first STAY for so many MINUTES from MINUTE 0 on, then in that of the next" */
    private static void firstAndLastMinuteOfAStay() {
        runs.run("stay(3, 2)", "stay(4, 1)", "stay(5, 3)", "master(0) = 3", "master(1) = 3", "master(2) = 4", "master(3) = 5", "master(5) = 5", "master(6) = 3");
        runs.run("stay(1, 50)", "stay(2, 1)", "stay(1, 48)", "stay(6, 1)", "master(49) = 1", "master(50) = 2", "master(51) = 1", "master(98) = 1", "master(99) = 6");
        runs.run("stay(3, 2)", "stay(3, 2)", "stay(4, 1)", "master(3) = 3", "master(4) = 4", "master(5) = 3");
    }

    /** "behind the last again in that of the first" */
    private static void roundGoesOnAnew() {
        runs.run("stay(3, 2)", "stay(4, 1)", "master(3) = 3", "master(4) = 3", "master(5) = 4", "master(98) = 4", "master(99) = 3");
        runs.run("stay(3, 50)", "stay(4, 49)", "master(98) = 4", "master(99) = 3");
        runs.run("stay(3, 50)", "stay(4, 50)", "master(98) = 4", "master(99) = 4");
        runs.run("stay(0, 1)", "stay(1, 1)", "stay(2, 1)", "stay(3, 1)", "stay(4, 1)", "stay(5, 1)", "stay(6, 1)", "stay(7, 1)",
            "master(7) = 7", "master(8) = 0", "master(95) = 7", "master(96) = 0", "master(99) = 3");
    }

    private static void roundLongerThanAMorning() {
        String[] made = {"stay(7, 50)", "stay(6, 50)", "stay(5, 50)", "stay(4, 50)", "stay(3, 50)", "stay(2, 50)", "stay(1, 50)", "stay(0, 50)"};
        runs.runOn(made, "master(0) = 7", "master(49) = 7", "master(50) = 6", "master(99) = 6", "free(5, 0) = 100", "longest(0, 0) = 100", "never(100) = 192");
    }

    private static void roundOfAMinute() {
        runs.run("stay(2, 1)", "master(0) = 2", "master(1) = 2", "master(99) = 2", "free(2, 0) = 0", "free(2, 99) = 0", "longest(2, 0) = 0");
    }

    /** "FREE of a ROOM from a MINUTE on: for how many MINUTES (to MINUTE 99) he isn't there." */
    private static void freeToTheLastMinute() {
        runs.run("free(0, 0) = 100", "free(0, 1) = 99", "free(0, 98) = 2", "free(0, 99) = 1");
        // in 1 from 0 on, in 2 from 90 on, in 1 from 130 on: MINUTE 99 is the last that is counted
        runs.run("stay(1, 50)", "stay(1, 40)", "stay(2, 40)", "free(1, 89) = 0", "free(1, 90) = 10", "free(1, 99) = 1", "free(2, 0) = 90", "free(2, 89) = 1", "free(2, 90) = 0", "free(2, 99) = 0");
        runs.run("stay(1, 3)", "stay(2, 5)", "free(1, 0) = 0", "free(1, 2) = 0", "free(1, 3) = 5", "free(1, 7) = 1", "free(1, 8) = 0", "free(2, 0) = 3", "free(2, 96) = 3", "free(2, 98) = 1", "free(2, 99) = 0");
    }

    private static void freeWhereHeIs() {
        runs.run("stay(7, 50)", "free(7, 0) = 0", "free(7, 50) = 0", "free(7, 99) = 0", "free(6, 99) = 1");
    }

    /** "of like ones the first such MINUTE" */
    private static void longestOfLikeOnes() {
        runs.run("stay(1, 3)", "stay(2, 5)", "longest(1, 0) = 5", "longest(1, 1) = 3", "longest(2, 0) = 3", "longest(2, 1) = 0");
        // 1 is free in 10 .. 49 and in 60 .. 99
        runs.run("stay(1, 10)", "stay(2, 40)", "longest(1, 0) = 40", "longest(1, 1) = 10", "longest(2, 0) = 10", "longest(2, 1) = 0");
        // 1 is free in 10 .. 19, then in 30 .. 49: the second is longer
        runs.run("stay(1, 10)", "stay(2, 10)", "stay(1, 10)", "stay(2, 20)", "longest(1, 0) = 20", "longest(1, 1) = 30");
    }

    /** "the most MINUTES one behind the other (of 0 .. 99) in which he isn't" */
    private static void longestToTheLastMinute() {
        // 2 is free in 0 .. 29; then in 80 .. 109, of which 20 count
        runs.run("stay(1, 30)", "stay(2, 50)", "longest(2, 0) = 30", "longest(2, 1) = 0", "longest(1, 0) = 50", "longest(1, 1) = 30");
        // 5 is free in 59 .. 99
        runs.run("stay(5, 50)", "stay(5, 9)", "stay(6, 50)", "longest(5, 0) = 41", "longest(5, 1) = 59", "longest(6, 0) = 59", "longest(6, 1) = 0");
        runs.run("stay(5, 50)", "stay(5, 49)", "stay(6, 1)", "longest(5, 0) = 1", "longest(5, 1) = 99", "longest(6, 0) = 99", "longest(6, 1) = 0");
    }

    /** "NONE: 0 MINUTES" */
    private static void longestOfNone() {
        runs.run("stay(0, 50)", "longest(0, 0) = 0", "longest(0, 1) = -1", "longest(1, 0) = 100", "longest(1, 1) = 0");
        runs.run("stay(7, 50)", "stay(7, 50)", "stay(6, 1)", "longest(7, 0) = 0", "longest(7, 1) = -1", "longest(6, 0) = 100", "longest(6, 1) = 0");
    }

    private static void longestOfAll() {
        runs.run("longest(0, 0) = 100", "longest(0, 1) = 0", "longest(7, 0) = 100", "stay(7, 1)", "longest(0, 0) = 100", "longest(0, 1) = 0");
        runs.run("stay(0, 1)", "stay(1, 50)", "stay(1, 50)", "longest(0, 0) = 99", "longest(0, 1) = 1");
    }

    /** "LONGEST (what 0), its first MINUTE (1 ..). BAD." */
    private static void whatLongestTakes() {
        runs.bad("longest(0, -1)", "longest(0, 2)", "longest(0, LEAST)", "longest(0, MOST)");
    }

    /** "NEVER: ROOMS (bits) whose LONGEST is below k." */
    private static void neverBelow() {
        runs.run("never(0) = 0", "never(1) = 0", "never(100) = 0");
        // LONGEST of 5 is 99, of 6 is 1, of the others 100
        runs.run("stay(5, 1)", "stay(6, 50)", "stay(6, 50)", "never(0) = 0", "never(1) = 0", "never(2) = 64", "never(99) = 64", "never(100) = 96");
        runs.run("stay(0, 50)", "never(0) = 0", "never(1) = 1", "never(100) = 1", "set(2, 0, 7)", "never(0) = 0", "never(1) = 128", "never(100) = 128");
        runs.run("stay(0, 1)", "stay(1, 1)", "stay(2, 1)", "stay(3, 1)", "stay(4, 1)", "stay(5, 1)", "stay(6, 1)", "stay(7, 1)", "never(7) = 0", "never(8) = 255", "never(100) = 255");
    }

    /** "NEVER, k 0 .. 100. BAD." */
    private static void whatNeverTakes() {
        runs.bad("never(-1)", "never(101)", "never(LEAST)", "never(MOST)");
    }

    private static void askingChangesNothing() {
        runs.onlyAsks(Runs.HOUSE, "master(0)", "master(99)", "free(0, 0)", "free(7, 99)", "longest(1, 0)", "longest(1, 1)", "never(0)", "never(100)");
    }
}
