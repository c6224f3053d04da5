/**
 * The edges of the house, told sentence by sentence: what stands in quotes is the document's. Terms 1 and 2 as far as
 * they are of the house, promises 1 to 8.
 */
public final class EdgeHouseTest {
    private static final Due due = new Due("EdgeHouseTest");
    private static final Runs runs = new Runs(due);

    public static void main(String[] args) {
        aNewObjectIsEmpty();
        roomsAreTaken();
        roomsAreRefused();
        floorsAreRows();
        stairsJoinTheEnds();
        stairsAreTaken();
        stairsAreRefused();
        staysAreUpToEight();
        minutesOfAStay();
        workOfARoom();
        kindsOfAMaid();
        numbersOfAMaid();
        maidsAreUpToFour();
        listsAreUpToFive();
        anEmptyListIsCleared();
        refusalsComeInOrder();
        thingsThatAreNotThere();
        whatSetTakes();
        whatToldTakes();
        toldOfAList();
        farAtItsEnds();
        nextOfLikeOnes();
        whatWayTakes();
        askingChangesNothing();
        due.end();
    }

    /** "NeverSeen(): No STAYS, no MAIDS." */
    private static void aNewObjectIsEmpty() {
        runs.run("count(0) = 0", "count(1) = 0", "told(0, 2) = -2", "told(0, 3) = -2", "told(0, 4) = -2", "told(0, 7) = -2");
        runs.run("master(0) = -1", "master(99) = -1", "clear(0) = -2", "best(0, 0) = -2", "taken(0, 0) = -11", "morning(0, 10) = -2");
        runs.run("maid(0, 0, 0) = 0", "stay(0, 1) = 1", "told(0, 7) = 0");
    }

    /** "ROOMS 0 .. 7": the first and the last are taken. */
    private static void roomsAreTaken() {
        runs.run("set(1, 0, 5) = 9", "set(1, 7, 6) = 9", "told(0, 1) = 5", "told(7, 1) = 6", "told(6, 1) = 9", "told(1, 1) = 9");
        runs.run("stay(0, 1) = 1", "stay(7, 1) = 2", "told(0, 2) = 0", "told(1, 2) = 7", "master(0) = 0", "master(1) = 7");
        runs.run("stay(3, 1)", "set(2, 0, 0) = 3", "set(2, 0, 7) = 0", "set(2, 0, 1) = 7");
        runs.run("maid(0, 0, 0) = 0", "maid(0, 0, 7) = 1", "told(0, 5) = 0", "told(1, 5) = 7");
        runs.run("maid(0, 0, 3)", "set(5, 0, 0) = 3", "set(5, 0, 7) = 0", "set(5, 0, 1) = 7");
        runs.run("maid(0, 0, 3)", "list(0, 0) = 1", "list(0, 7) = 2", "told(0, 10) = 0", "told(0, 11) = 7");
        runs.run("way(0, 7, 0) = 4", "way(7, 0, 0) = 4", "way(0, 7, 1) = 1", "way(7, 0, 1) = 3");
        runs.run("free(0, 0) = 100", "free(7, 0) = 100", "longest(0, 0) = 100", "longest(7, 0) = 100");
        runs.run("morning(0, 50) = 9", "morning(0, 57) = 9");
    }

    /** "ROOMS 0 .. 7": those just outside and far outside are BAD. */
    private static void roomsAreRefused() {
        String[] outside = {"-1", "8", "LEAST", "MOST"};
        for (String room : outside) {
            runs.bad("told(" + room + ", 1)", "set(1, " + room + ", 5)", "set(2, 0, " + room + ")", "set(5, 0, " + room + ")");
            runs.bad("stay(" + room + ", 1)", "maid(0, 0, " + room + ")", "list(0, " + room + ")");
            runs.bad("way(" + room + ", 0, 0)", "way(0, " + room + ", 0)", "way(" + room + ", 0, 1)", "way(0, " + room + ", 1)");
            runs.bad("free(" + room + ", 0)", "longest(" + room + ", 0)", "longest(" + room + ", 1)");
        }
    }

    /** "0 .. 3 below, 4 .. 7 above, each floor in a row; ROOMS BESIDE one: the one ahead, the one behind it in the row" */
    private static void floorsAreRows() {
        runs.run("way(0, 1, 0) = 1", "way(1, 2, 0) = 1", "way(2, 3, 0) = 1", "way(4, 5, 0) = 1", "way(5, 6, 0) = 1", "way(6, 7, 0) = 1");
        runs.run("set(0, 0, 0)", "way(3, 4, 0) = 8", "way(4, 3, 0) = 8", "way(0, 3, 0) = 3", "way(4, 7, 0) = 3", "way(7, 4, 0) = 3");
        runs.run("way(3, 4, 0) = 4", "way(4, 3, 0) = 4", "way(0, 3, 0) = 3", "way(0, 7, 0) = 4");
    }

    /** "by the left stairs 0 and 4, by the right ones 3 and 7" */
    private static void stairsJoinTheEnds() {
        runs.run("set(0, 0, 1)", "way(0, 4, 0) = 1", "way(4, 0, 1) = 0", "way(3, 7, 0) = 7", "way(1, 5, 0) = 3", "way(2, 6, 0) = 5");
        runs.run("set(0, 0, 2)", "way(3, 7, 0) = 1", "way(7, 3, 1) = 3", "way(0, 4, 0) = 7", "way(1, 5, 0) = 5", "way(2, 6, 0) = 3");
        runs.run("set(0, 0, 3)", "way(0, 4, 0) = 1", "way(3, 7, 0) = 1", "way(1, 5, 0) = 3", "way(2, 6, 0) = 3");
        runs.run("set(0, 0, 0)", "way(0, 4, 0) = 8", "way(3, 7, 0) = 8", "way(1, 5, 0) = 8", "way(2, 6, 0) = 8");
    }

    /** "STAIRS: which there are: 0 none, 1 the left, 2 the right, 3 both, as at first"; "of does not matter" */
    private static void stairsAreTaken() {
        runs.run("told(0, 0) = 3", "count(2) = 3");
        runs.run("set(0, 0, 0) = 3", "told(0, 0) = 0", "set(0, 0, 3) = 0", "told(0, 0) = 3", "set(0, 0, 1) = 3", "set(0, 0, 2) = 1", "count(2) = 2");
        runs.run("set(0, -1, 0) = 3", "set(0, 8, 1) = 0", "set(0, LEAST, 2) = 1", "set(0, MOST, 3) = 2");
        runs.run("told(-1, 0) = 3", "told(8, 0) = 3", "told(LEAST, 0) = 3", "told(MOST, 0) = 3");
    }

    /** "STAIRS .. 0 .. 3": -1 and 4 are BAD. */
    private static void stairsAreRefused() {
        runs.bad("set(0, 0, -1)", "set(0, 0, 4)", "set(0, 0, LEAST)", "set(0, 0, MOST)");
    }

    /** "THE ROUND: up to 8 STAYS"; "A STAY behind all others: how many there are. BAD; FULL." */
    private static void staysAreUpToEight() {
        runs.run("stay(0, 2) = 1", "stay(1, 2) = 2", "stay(2, 2) = 3", "stay(3, 2) = 4", "stay(4, 2) = 5", "stay(5, 2) = 6",
            "stay(6, 2) = 7", "stay(7, 3) = 8", "stay(0, 1) = -4", "count(1) = 8", "told(7, 2) = 7", "told(7, 3) = 3", "told(8, 2) = -2",
            "set(2, 7, 6) = 7", "set(3, 7, 1) = 3", "set(2, 8, 0) = -2", "set(3, 8, 1) = -2", "told(7, 2) = 6", "told(7, 3) = 1", "master(13) = 6", "master(14) = 6", "master(15) = 0");
        runs.refused(Runs.FULL_HOUSE, -4, "stay(0, 1)", "stay(7, 50)");
    }

    /** "so many MINUTES (1 .. 50) each" */
    private static void minutesOfAStay() {
        runs.run("stay(0, 1) = 1", "stay(1, 50) = 2", "told(0, 3) = 1", "told(1, 3) = 50", "set(3, 0, 50) = 1", "set(3, 1, 1) = 50", "told(0, 3) = 50", "told(1, 3) = 1");
        runs.bad("stay(0, 0)", "stay(0, 51)", "stay(0, -1)", "stay(0, LEAST)", "stay(0, MOST)");
        runs.bad("set(3, 0, 0)", "set(3, 0, 51)", "set(3, 0, -1)", "set(3, 0, LEAST)", "set(3, 0, MOST)");
    }

    /** "WORK of a ROOM: 0 .. 99 (9 at first)" */
    private static void workOfARoom() {
        runs.run("told(0, 1) = 9", "told(3, 1) = 9", "told(4, 1) = 9", "told(7, 1) = 9", "count(6) = 72");
        runs.run("set(1, 0, 0) = 9", "told(0, 1) = 0", "set(1, 0, 99) = 0", "told(0, 1) = 99", "count(6) = 162");
        runs.bad("set(1, 0, -1)", "set(1, 0, 100)", "set(1, 7, -1)", "set(1, 7, 100)", "set(1, 0, LEAST)", "set(1, 0, MOST)");
    }

    /** "MAIDS .. have a KIND: 0 MAID, 1 QUICK .., 5 NEW" */
    private static void kindsOfAMaid() {
        runs.run("maid(0, 0, 0) = 0", "maid(5, 0, 0) = 1", "told(0, 6) = 0", "told(1, 6) = 5");
        runs.run("maid(1, 0, 0)", "maid(2, 0, 0)", "maid(3, 0, 0)", "maid(4, 0, 0)", "told(0, 6) = 1", "told(1, 6) = 2", "told(2, 6) = 3", "told(3, 6) = 4");
        runs.bad("maid(-1, 0, 0)", "maid(6, 0, 0)", "maid(LEAST, 0, 0)", "maid(MOST, 0, 0)");
    }

    /** "a NUMBER (0 .. 9)" */
    private static void numbersOfAMaid() {
        runs.run("maid(0, 0, 0) = 0", "maid(0, 9, 0) = 1", "told(0, 4) = 0", "told(1, 4) = 9", "set(4, 0, 9) = 0", "set(4, 1, 0) = 9", "told(0, 4) = 9", "told(1, 4) = 0");
        runs.bad("maid(0, -1, 0)", "maid(0, 10, 0)", "maid(0, LEAST, 0)", "maid(0, MOST, 0)");
        runs.bad("set(4, 0, -1)", "set(4, 0, 10)", "set(4, 0, LEAST)", "set(4, 0, MOST)");
    }

    /** "MAIDS (4 at most, numbered from 0)"; "A MAID: her number. BAD; FULL." */
    private static void maidsAreUpToFour() {
        runs.run("maid(0, 1, 2) = 0", "maid(0, 3, 4) = 1", "maid(0, 5, 6) = 2", "maid(0, 7, 1) = 3", "maid(0, 0, 0) = -4",
            "count(0) = 4", "told(3, 4) = 7", "told(3, 5) = 1", "told(4, 4) = -2", "set(4, 3, 2) = 7", "set(5, 3, 5) = 1", "set(4, 4, 0) = -2", "told(3, 4) = 2", "told(3, 5) = 5", "told(2, 4) = 5", "told(2, 5) = 6");
        runs.refused(Runs.FULL_HOUSE, -4, "maid(0, 0, 0)", "maid(5, 9, 7)");
    }

    /** "have a LIST of up to 5 ROOMS (none as one comes)"; "how many it has. BAD; FULL." */
    private static void listsAreUpToFive() {
        runs.run("maid(0, 0, 0)", "told(0, 7) = 0", "told(0, 10) = -1", "list(0, 7) = 1", "list(0, 6) = 2", "list(0, 5) = 3",
            "list(0, 4) = 4", "list(0, 3) = 5", "list(0, 2) = -4", "told(0, 7) = 5", "told(0, 14) = 3", "maid(0, 0, 0) = 1", "told(1, 7) = 0", "list(1, 2) = 1");
        runs.refused(Runs.FULL_HOUSE, -4, "list(0, 0)", "list(1, 7)", "list(2, 4)", "list(3, 0)");
        runs.bad("list(4, 0)", "list(-1, 0)", "list(LEAST, 0)", "list(MOST, 0)");
    }

    /** "Her LIST is empty: how many it had. BAD." */
    private static void anEmptyListIsCleared() {
        runs.run("maid(0, 0, 0)", "maid(0, 0, 0)", "clear(0) = 0", "list(0, 4)", "list(1, 5)", "clear(0) = 1", "clear(0) = 0", "told(0, 7) = 0", "told(0, 10) = -1",
            "told(1, 7) = 1", "told(1, 10) = 5", "list(0, 6) = 1", "told(0, 10) = 6", "told(0, 11) = -1");
        runs.runOn(Runs.FULL_HOUSE, "clear(3) = 5", "told(3, 14) = -1", "told(2, 14) = 4", "list(3, 2) = 1", "told(3, 11) = -1");
        runs.bad("clear(-1)", "clear(4)", "clear(LEAST)", "clear(MOST)");
    }

    /** "Refusals, the first that the call's words name": BAD is ahead of FULL. */
    private static void refusalsComeInOrder() {
        runs.refused(Runs.FULL_HOUSE, -2, "stay(8, 1)", "stay(-1, 1)", "stay(0, 0)", "stay(0, 51)");
        runs.refused(Runs.FULL_HOUSE, -2, "maid(6, 0, 0)", "maid(0, 10, 0)", "maid(0, 0, 8)", "maid(-1, -1, -1)");
        runs.refused(Runs.FULL_HOUSE, -2, "list(0, 8)", "list(0, -1)", "list(4, 0)");
    }

    /** "BAD (-2: a number is none such": a STAY, a MAID that isn't there, the first behind those that are. */
    private static void thingsThatAreNotThere() {
        runs.refused(new String[0], -2, "told(0, 2)", "told(0, 3)", "set(2, 0, 0)", "set(3, 0, 1)");
        runs.refused(Runs.HOUSE, -2, "told(3, 2)", "told(3, 3)", "set(2, 3, 0)", "set(3, 3, 1)", "told(-1, 2)", "told(-1, 3)", "set(2, -1, 0)", "set(3, -1, 1)");
        runs.refused(Runs.FULL_HOUSE, -2, "told(8, 2)", "told(8, 3)", "set(2, 8, 0)", "set(3, 8, 1)", "set(2, MOST, 0)", "set(3, LEAST, 1)");
        runs.refused(new String[0], -2, "told(0, 4)", "told(0, 5)", "told(0, 6)", "told(0, 7)", "told(0, 10)", "set(4, 0, 0)", "set(5, 0, 0)", "list(0, 0)", "clear(0)");
        runs.refused(Runs.HOUSE, -2, "told(3, 4)", "told(3, 5)", "told(3, 6)", "told(3, 7)", "told(3, 10)", "set(4, 3, 0)", "set(5, 3, 0)", "list(3, 0)", "clear(3)");
        runs.refused(Runs.HOUSE, -2, "told(-1, 4)", "told(-1, 5)", "told(-1, 6)", "told(-1, 7)", "told(-1, 14)", "set(4, -1, 0)", "set(5, -1, 0)");
        runs.refused(Runs.FULL_HOUSE, -2, "told(4, 4)", "told(4, 5)", "told(4, 6)", "told(4, 7)", "told(4, 10)", "set(4, 4, 0)", "set(5, 4, 0)", "set(4, MOST, 0)");
        runs.runOn(Runs.HOUSE, "set(2, 2, 0) = 3", "set(3, 2, 1) = 2", "set(4, 2, 0) = 2", "set(5, 2, 0) = 5", "list(2, 0) = 1", "clear(2) = 1");
    }

    /** "STAIRS (what 0 ..), WORK of a ROOM (1), .. the ROOM where she begins (5)": others are BAD. */
    private static void whatSetTakes() {
        runs.bad("set(-1, 0, 1)", "set(6, 0, 1)", "set(7, 0, 1)", "set(10, 0, 1)", "set(LEAST, 0, 1)", "set(MOST, 0, 1)");
        runs.runOn(Runs.HOUSE, "set(0, 0, 1) = 3", "set(5, 0, 1) = 0");
    }

    /** "What 0 .. 5 as of set(), 6 KIND of a MAID, 7 how many are on her LIST, 10 .. 14": 8, 9, 15 are BAD. */
    private static void whatToldTakes() {
        runs.bad("told(0, -1)", "told(0, 8)", "told(0, 9)", "told(0, 15)", "told(0, LEAST)", "told(0, MOST)");
        runs.runOn(Runs.HOUSE, "told(0, 0) = 3", "told(0, 7) = 2", "told(0, 10) = 3", "told(0, 14) = -1");
    }

    /** "10 .. 14 number what less 10 on it (NONE: there are fewer)" */
    private static void toldOfAList() {
        runs.run("maid(0, 0, 0)", "told(0, 10) = -1", "told(0, 14) = -1", "list(0, 5)", "told(0, 10) = 5", "told(0, 11) = -1", "list(0, 4)",
            "list(0, 3)", "list(0, 2)", "told(0, 13) = 2", "told(0, 14) = -1", "list(0, 0)", "told(0, 14) = 0", "told(0, 15) = -2", "told(1, 10) = -2");
    }

    /** "FAR: .. (8, if there is no way)": from 0, of the same ROOM, to 7. */
    private static void farAtItsEnds() {
        for (int room = 0; room < 8; room++) {
            for (int stairs = 0; stairs < 4; stairs++) {
                runs.run("set(0, 0, " + stairs + ")", "way(" + room + ", " + room + ", 0) = 0", "way(" + room + ", " + room + ", 1) = -1");
            }
        }
        runs.run("set(0, 0, 1)", "way(3, 7, 0) = 7", "way(7, 3, 0) = 7", "way(3, 7, 1) = 2", "way(7, 3, 1) = 6");
        runs.run("set(0, 0, 2)", "way(0, 4, 0) = 7", "way(4, 0, 0) = 7", "way(0, 4, 1) = 1", "way(4, 0, 1) = 5");
        runs.run("set(0, 0, 0)", "way(0, 7, 0) = 8", "way(3, 4, 0) = 8", "way(0, 7, 1) = -1", "way(3, 4, 1) = -1", "way(7, 0, 1) = -1", "way(0, 3, 1) = 1", "way(7, 4, 1) = 6");
    }

    /** "of like ones the least" */
    private static void nextOfLikeOnes() {
        runs.run("way(0, 7, 1) = 1", "way(1, 6, 1) = 0", "way(2, 5, 1) = 1", "way(3, 4, 1) = 2");
        runs.run("way(4, 3, 1) = 0", "way(5, 2, 1) = 4", "way(6, 1, 1) = 5", "way(7, 0, 1) = 3");
    }

    /** "FAR (what 0), NEXT (1 ..). BAD." */
    private static void whatWayTakes() {
        runs.bad("way(0, 0, -1)", "way(0, 0, 2)", "way(0, 1, LEAST)", "way(0, 1, MOST)");
    }

    /** What only asks "answers" and changes nothing. */
    private static void askingChangesNothing() {
        runs.onlyAsks(Runs.HOUSE, "told(0, 0)", "told(7, 1)", "told(2, 2)", "told(2, 3)", "told(2, 4)", "told(2, 5)", "told(2, 6)", "told(1, 7)", "told(0, 10)");
        runs.onlyAsks(Runs.HOUSE, "way(0, 7, 0)", "way(0, 7, 1)");
    }
}
