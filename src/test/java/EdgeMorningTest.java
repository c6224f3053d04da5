/** The edges of a morning, told sentence by sentence: terms 1 (what KINDS do) and 2 (A MORNING), promise 16. */
public final class EdgeMorningTest {
    private static final Due due = new Due("EdgeMorningTest");
    private static final Runs runs = new Runs(due);
    private static final int MAID = 0, QUICK = 1, QUIET = 2, BOLD = 3, SLOW = 4, NEW = 5;

    public static void main(String[] args) {
        minutesOfAMorning();
        whatMorningTakes();
        maidsOfAMorning();
        aMorningOfNone();
        takesOfAMaid();
        takesOfAQuickOne();
        takesOfAQuietOne();
        takesOfABoldOne();
        takesOfASlowOne();
        takesOfANewOne();
        worksOfAll();
        boldOnesDareInSomeMinutes();
        boldOnesDareInTheLastMinute();
        othersNeverDare();
        firstMinuteOfAWay();
        lastMinuteOfAWay();
        seenBehindAWay();
        seenIsAheadOfAll();
        workIsNotBelowNone();
        workThatIsDoneTakesAMinute();
        twoFinishTogether();
        aimIsTheFirst();
        aimBehindTheLast();
        farSevenIsWalked();
        farEightIsNot();
        heIsInNext();
        heIsInTheAimOnly();
        waitsAllMorning();
        fromEachRoomToEach();
        byNumbers();
        leftOfAllRooms();
        shillingsOfEach();
        readyInTheFirstMinute();
        readyInTheLastMinute();
        readyOfAnyList();
        readyOfRoomsOnLists();
        askingChangesNothing();
        due.end();
    }

    private static String[] rule(String text, String... more) {
        String[] made = new String[more.length + 3];
        made[0] = "tape: " + text;
        made[1] = "text()";
        made[2] = "force(1)";
        System.arraycopy(more, 0, made, 3, more.length);
        return made;
    }

    /** "A MORNING of n MINUTES (0 .. 100)" */
    private static void minutesOfAMorning() {
        runs.run("maid(0, 0, 0)", "morning(0, 30) = 0", "morning(1, 30) = 1", "morning(99, 30) = 99", "morning(100, 30) = 100");
        runs.bad("morning(-1, 0)", "morning(101, 0)", "morning(LEAST, 0)", "morning(MOST, 0)", "morning(-1, 50)", "morning(101, 57)");
    }

    /** "LEFT (what 0), SHILLINGS (1), READY (2; NONE), DEAR (3); of MAID what modulo 10: 10 .. 40 ..; 50 .. 57" */
    private static void whatMorningTakes() {
        runs.bad("morning(5, -1)", "morning(5, 4)", "morning(5, 5)", "morning(5, 9)", "morning(5, 58)", "morning(5, 59)", "morning(5, 60)", "morning(5, LEAST)", "morning(5, MOST)");
        runs.runOn(Runs.FULL_HOUSE, "morning(0, 3) = 72", "morning(0, 10) = 0", "morning(0, 43) = 3", "morning(0, 50) = 9", "morning(0, 57) = 9");
    }

    /** "of MAID what modulo 10": one that isn't there is BAD. */
    private static void maidsOfAMorning() {
        runs.refused(new String[0], -2, "morning(5, 10)", "morning(5, 20)", "morning(5, 30)", "morning(5, 40)", "morning(5, 49)");
        runs.refused(Runs.HOUSE, -2, "morning(5, 13)", "morning(5, 19)", "morning(5, 23)", "morning(5, 33)", "morning(5, 43)", "morning(5, 49)");
        runs.refused(Runs.FULL_HOUSE, -2, "morning(5, 14)", "morning(5, 24)", "morning(5, 34)", "morning(5, 44)", "morning(5, 19)", "morning(5, 49)");
        runs.runOn(Runs.HOUSE, "morning(0, 10) = 0", "morning(0, 12) = 5", "morning(0, 22) = 0", "morning(0, 32) = 0", "morning(0, 42) = -1", "morning(0, 41) = 2");
        runs.runOn(Runs.FULL_HOUSE, "morning(0, 13) = 3", "morning(0, 23) = 0", "morning(0, 33) = 0", "morning(0, 43) = 3");
    }

    /** "all MAIDS are where they begin, the first ROOM of the LIST of each is her AIM (NONE, if it is empty)": of 0 MINUTES. */
    private static void aMorningOfNone() {
        runs.run("stay(3, 1)", "maid(0, 0, 3)", "maid(3, 5, 7)", "list(1, 6)", "list(1, 5)", "set(1, 2, 0)", "set(1, 4, 99)",
            "morning(0, 0) = 153", "morning(0, 1) = 0", "morning(0, 2) = -1", "morning(0, 3) = 153", "morning(0, 10) = 3", "morning(0, 20) = 0", "morning(0, 30) = 0",
            "morning(0, 40) = -1", "morning(0, 11) = 7", "morning(0, 41) = 6", "morning(0, 52) = 0", "morning(0, 54) = 99");
        runs.run("morning(0, 0) = 72", "morning(0, 1) = 0", "morning(0, 2) = -1", "morning(0, 3) = 72");
    }

    private static void takes(int kind, int number, int steps, int want) {
        NeverSeen x = Due.withRule("steps " + steps + ";does 1;costs 1;");
        x.maid(kind, number, 0);
        x.list(0, 1);
        String who = "kind " + kind + ", number " + number + ", steps " + steps;
        due.is(who + ": still on the way", x.morning(want, 10), 0);
        due.is(who + ": there", x.morning(want + 1, 10), 1);
        due.is(who + ": never waits", x.morning(want + 1, 30), 0);
    }

    /** "TAKES ..: MAID: v" */
    private static void takesOfAMaid() {
        takes(MAID, 9, 1, 1);
        takes(MAID, 0, 2, 2);
        takes(MAID, 9, 9, 9);
    }

    /** "QUICK: NUMBER by 3 (cut) less than a MAID"; "(TAKES .. 1 at least, in the end.)" */
    private static void takesOfAQuickOne() {
        int[] less = {0, 0, 0, 1, 1, 1, 2, 2, 2, 3};
        for (int number = 0; number < 10; number++) {
            takes(QUICK, number, 9, 9 - less[number]);
            takes(QUICK, number, 1, 1);
        }
        takes(QUICK, 9, 5, 2);
        takes(QUICK, 9, 4, 1);
        takes(QUICK, 9, 3, 1);
        takes(QUICK, 9, 2, 1);
    }

    /** "QUIET: 1 more than a MAID" */
    private static void takesOfAQuietOne() {
        takes(QUIET, 0, 1, 2);
        takes(QUIET, 9, 9, 10);
    }

    /** "BOLD: as a QUICK" */
    private static void takesOfABoldOne() {
        int[] less = {0, 0, 0, 1, 1, 1, 2, 2, 2, 3};
        for (int number = 0; number < 10; number++) {
            takes(BOLD, number, 9, 9 - less[number]);
            takes(BOLD, number, 1, 1);
        }
        takes(BOLD, 9, 4, 1);
        takes(BOLD, 9, 3, 1);
    }

    /** "SLOW: twice a QUIET's" */
    private static void takesOfASlowOne() {
        takes(SLOW, 0, 1, 4);
        takes(SLOW, 9, 9, 20);
    }

    /** "NEW: twice a MAID's" */
    private static void takesOfANewOne() {
        takes(NEW, 0, 1, 2);
        takes(NEW, 9, 9, 18);
    }

    private static void works(int kind, int number, int does, int want) {
        NeverSeen x = Due.withRule("steps 1;does " + does + ";costs 1;");
        x.set(1, 0, 99);
        x.maid(kind, number, 0);
        x.list(0, 0);
        due.is("kind " + kind + ", number " + number + ", does " + does, 99 - x.morning(1, 50), want);
    }

    /** "WORKS ..: MAID: v; QUICK: 1 more than a MAID; .. NEW: half (cut) of a MAID's."; "(.. WORKS 1 at least, in the end.)" */
    private static void worksOfAll() {
        int[][] told = {
            {MAID, 9, 1, 1}, {MAID, 9, 9, 9}, {QUICK, 0, 1, 2}, {QUICK, 9, 9, 10}, {QUIET, 9, 1, 1}, {QUIET, 0, 9, 9},
            {BOLD, 0, 1, 2}, {BOLD, 9, 9, 10}, {SLOW, 0, 1, 1}, {SLOW, 9, 1, 10}, {SLOW, 0, 9, 9}, {SLOW, 9, 9, 18},
            {NEW, 9, 1, 1}, {NEW, 0, 2, 1}, {NEW, 0, 3, 1}, {NEW, 0, 4, 2}, {NEW, 0, 5, 2}, {NEW, 9, 8, 4}, {NEW, 9, 9, 4},
        };
        for (int[] t : told) {
            works(t[0], t[1], t[2], t[3]);
        }
    }

    /** "BOLD: yes, if the MINUTE modulo (NUMBER and 2) is 0" */
    private static void boldOnesDareInSomeMinutes() {
        for (int number = 0; number < 10; number++) {
            NeverSeen x = new NeverSeen();
            x.stay(1, 50);
            x.maid(BOLD, number, 0);
            x.list(0, 1);
            due.is("bold " + number + " dares in MINUTE 0", x.morning(1, 30), 0);
            due.is("and is there in MINUTE 1", x.morning(2, 10), 1);
            due.is("and is SEEN in MINUTE 2", x.morning(3, 20), 1);
            x = new NeverSeen();
            x.stay(1, 50);
            x.set(1, 0, 0);
            x.maid(BOLD, number, 0);
            x.list(0, 0);
            x.list(0, 1);
            due.is("bold " + number + " waits till the next", x.morning(number + 2, 30), number + 1);
            due.is("and dares then", x.morning(number + 3, 30), number + 1);
            due.is("and is there", x.morning(number + 4, 10), 1);
        }
    }

    /** MINUTE 99 modulo 11 is 0; he is with her till MINUTE 88, then in the ROOM to which she would go. */
    private static void boldOnesDareInTheLastMinute() {
        String[] made = {"stay(0, 50)", "stay(0, 39)", "stay(1, 50)", "maid(3, 9, 0)", "list(0, 1)"};
        runs.runOn(made, "morning(89, 20) = 89", "morning(99, 20) = 89", "morning(99, 30) = 10", "morning(100, 30) = 10", "morning(100, 20) = 89", "morning(100, 10) = 0");
        runs.runOn(made, "set(4, 0, 8)", "morning(90, 30) = 1", "morning(91, 30) = 1", "morning(92, 10) = 1", "morning(93, 20) = 90");
        runs.runOn(made, "set(4, 0, 6)", "morning(100, 30) = 7");
    }

    /** "MAID: no; QUICK: as a MAID; QUIET: as a MAID; .. SLOW: as a QUIET; NEW: as a MAID." */
    private static void othersNeverDare() {
        int[] kinds = {MAID, QUICK, QUIET, SLOW, NEW};
        for (int kind : kinds) {
            for (int number = 0; number < 10; number += 3) {
                NeverSeen x = new NeverSeen();
                x.stay(1, 50);
                x.maid(kind, number, 0);
                x.list(0, 1);
                due.is("kind " + kind + ", number " + number + " waits", x.morning(100, 30), 100);
            }
        }
    }

    /** "she is on a way there, for what it TAKES": in the MINUTE in which she sets out it isn't less yet. */
    private static void firstMinuteOfAWay() {
        runs.run("maid(0, 0, 0)", "list(0, 1)", "morning(1, 10) = 0", "morning(1, 30) = 0", "morning(1, 20) = 0", "morning(2, 10) = 1", "morning(2, 51) = 9", "morning(3, 51) = 8");
    }

    /** "she is on a way: it is 1 minute less; when none is left of it, she is in the ROOM to which it goes": all of that MINUTE. */
    private static void lastMinuteOfAWay() {
        runs.runOn(rule("steps 3;does 1;costs 1;", "maid(0, 0, 0)", "list(0, 1)"),
            "morning(3, 10) = 0", "morning(4, 10) = 1", "morning(4, 51) = 9", "morning(5, 51) = 8", "morning(5, 30) = 0");
        // over a ROOM that is not her AIM: two MINUTES each
        runs.run("maid(0, 0, 0)", "list(0, 3)", "morning(2, 10) = 1", "morning(3, 10) = 1", "morning(4, 10) = 2", "morning(6, 10) = 3", "morning(6, 53) = 9", "morning(7, 53) = 8");
    }

    /** "She isn't [on a way], and THE MASTER is in her ROOM: she is SEEN": not while she is on one, nor as she comes. */
    private static void seenBehindAWay() {
        // he is in 0 in MINUTES 1, 2, in 1 in MINUTE 3, then out of the way
        runs.runOn(rule("steps 3;does 1;costs 1;", "stay(7, 1)", "stay(0, 2)", "stay(1, 1)", "stay(7, 50)", "maid(0, 0, 0)", "list(0, 1)"),
            "morning(4, 10) = 1", "morning(4, 20) = 0", "morning(5, 20) = 0", "set(3, 2, 2)", "morning(4, 20) = 0", "morning(5, 20) = 1", "morning(5, 1) = 1");
        // SEEN in the first and in the last MINUTE
        runs.run("stay(0, 1)", "stay(7, 50)", "stay(7, 50)", "maid(0, 0, 0)", "morning(1, 20) = 1", "morning(100, 20) = 1");
        runs.run("stay(7, 50)", "stay(7, 49)", "stay(0, 1)", "maid(0, 0, 0)", "morning(99, 20) = 0", "morning(100, 20) = 1");
        runs.run("stay(0, 50)", "maid(0, 0, 0)", "morning(100, 20) = 100", "morning(100, 30) = 0");
    }

    private static void seenIsAheadOfAll() {
        runs.run("stay(0, 1)", "stay(7, 50)", "maid(0, 0, 0)", "list(0, 0)", "maid(3, 0, 0)", "list(1, 1)", "morning(1, 50) = 9", "morning(2, 50) = 7", "morning(2, 11) = 0", "morning(3, 11) = 1");
    }

    /** "WORK there is what she WORKS less (0 at least); if it is 0 then, the next ROOM of her LIST is her AIM" */
    private static void workIsNotBelowNone() {
        String[] made = rule("steps 1;does 9;costs 1;", "maid(0, 0, 0)", "list(0, 0)", "list(0, 1)");
        runs.runOn(made, "set(1, 0, 10)", "morning(1, 50) = 1", "morning(1, 40) = 0", "morning(2, 50) = 0", "morning(2, 40) = 1");
        runs.runOn(made, "set(1, 0, 9)", "morning(1, 50) = 0", "morning(1, 40) = 1");
        runs.runOn(made, "set(1, 0, 8)", "morning(1, 50) = 0", "morning(1, 40) = 1", "morning(1, 0) = 63");
        runs.runOn(made, "set(1, 0, 1)", "morning(1, 50) = 0", "morning(100, 50) = 0");
    }

    private static void workThatIsDoneTakesAMinute() {
        runs.run("set(1, 0, 0)", "maid(0, 0, 0)", "list(0, 0)", "list(0, 0)", "list(0, 1)", "morning(0, 40) = 0", "morning(1, 40) = 0", "morning(2, 40) = 1", "morning(1, 30) = 0", "morning(3, 10) = 0", "morning(4, 10) = 1");
    }

    /** One takes the last of it; the other's AIM is the ROOM still, nothing is left, and she goes on in the same MINUTE. */
    private static void twoFinishTogether() {
        runs.run("set(1, 0, 2)", "maid(0, 0, 0)", "maid(0, 0, 0)", "list(0, 0)", "list(0, 1)", "list(1, 0)", "list(1, 4)", "morning(1, 50) = 0", "morning(1, 40) = 1", "morning(1, 41) = 4", "morning(1, 30) = 0", "morning(1, 31) = 0");
    }

    /** "40 .. her AIM (NONE)" */
    private static void aimIsTheFirst() {
        runs.run("maid(0, 0, 0)", "morning(0, 40) = -1", "morning(100, 40) = -1", "list(0, 7)", "list(0, 6)", "morning(0, 40) = 7", "morning(1, 40) = 7");
    }

    /** "(NONE behind the last)" */
    private static void aimBehindTheLast() {
        runs.runOn(rule("steps 1;does 9;costs 1;", "maid(0, 0, 0)", "list(0, 0)", "list(0, 0)", "list(0, 0)", "list(0, 0)", "list(0, 0)"),
            "morning(4, 40) = 0", "morning(5, 40) = -1", "morning(6, 40) = -1", "morning(5, 30) = 0", "morning(6, 30) = 1", "morning(100, 30) = 95");
    }

    /** "it is less than 8 FAR" */
    private static void farSevenIsWalked() {
        runs.run("set(0, 0, 1)", "maid(0, 0, 3)", "list(0, 7)", "way(3, 7, 0) = 7", "morning(100, 57) = 0", "morning(14, 10) = 7", "morning(13, 10) = 6", "morning(14, 30) = 0");
    }

    private static void farEightIsNot() {
        runs.run("set(0, 0, 0)", "maid(0, 0, 3)", "list(0, 7)", "morning(100, 57) = 9", "morning(100, 30) = 100", "morning(100, 40) = 7", "morning(100, 10) = 3");
        runs.run("set(0, 0, 0)", "maid(3, 0, 3)", "list(0, 4)", "morning(100, 30) = 100");
    }

    /** "THE MASTER isn't in NEXT towards it" */
    private static void heIsInNext() {
        // he is in 1 in MINUTES 0, 1: she goes in MINUTE 2
        runs.run("stay(1, 2)", "stay(7, 50)", "maid(0, 0, 0)", "list(0, 2)", "morning(2, 30) = 2", "morning(3, 30) = 2", "morning(4, 10) = 1", "morning(2, 20) = 0");
    }

    private static void heIsInTheAimOnly() {
        runs.run("stay(2, 50)", "maid(0, 0, 0)", "list(0, 2)", "morning(1, 30) = 0", "morning(2, 10) = 1", "morning(3, 30) = 1", "morning(100, 30) = 98", "morning(100, 10) = 1");
    }

    /** "Else she WAITS." */
    private static void waitsAllMorning() {
        runs.run("maid(0, 0, 0)", "morning(1, 30) = 1", "morning(100, 30) = 100", "stay(0, 1)", "stay(7, 50)", "stay(7, 50)", "morning(1, 30) = 0", "morning(100, 30) = 99");
    }

    /** Two MINUTES for each of FAR, over NEXT: with all STAIRS that there can be. */
    private static void fromEachRoomToEach() {
        for (int stairs = 0; stairs < 4; stairs++) {
            for (int way = 0; way < 64; way++) {
                NeverSeen x = new NeverSeen();
                x.set(0, 0, stairs);
                x.maid(0, 0, way / 8);
                x.list(0, way % 8);
                int far = x.way(way / 8, way % 8, 0);
                String call = "stairs " + stairs + ", from " + way / 8 + " to " + way % 8;
                due.is(call, x.morning(far == 8 ? 100 : 2 * far, 10), far == 8 ? way / 8 : way % 8);
                due.is(call + ": she waits", x.morning(2 * far, 30), far == 8 ? 16 : 0);
                if (far > 0 && far < 8) {
                    due.is(call + ": not there yet", x.morning(2 * far - 1, 10) == way % 8 ? 1 : 0, 0);
                    due.is(call + ": over", x.morning(2, 10), x.way(way / 8, way % 8, 1));
                }
            }
        }
    }

    /** "MAIDS one behind the other by numbers" */
    private static void byNumbers() {
        // the first takes what is left, and is gone in the next MINUTE for the second
        runs.run("set(1, 0, 1)", "maid(0, 0, 0)", "maid(0, 0, 0)", "list(0, 1)", "list(1, 0)", "morning(1, 50) = 0");
        runs.run("set(1, 0, 4)", "maid(0, 0, 0)", "maid(0, 0, 0)", "list(0, 1)", "list(1, 0)", "morning(1, 50) = 3");
        runs.run("set(1, 0, 4)", "maid(0, 0, 0)", "maid(0, 0, 0)", "list(0, 0)", "list(1, 1)", "morning(1, 50) = 2");
    }

    /** "LEFT: WORK of all ROOMS, together, at last" */
    private static void leftOfAllRooms() {
        runs.run("morning(100, 0) = 72", "maid(0, 0, 0)", "list(0, 0)", "morning(100, 0) = 63", "morning(8, 0) = 64");
        String[] made = new String[8];
        for (int room = 0; room < 8; room++) {
            made[room] = "set(1, " + room + ", 99)";
        }
        runs.runOn(made, "morning(100, 0) = 792", "morning(0, 0) = 792", "morning(100, 3) = 792");
        for (int room = 0; room < 8; room++) {
            made[room] = "set(1, " + room + ", 0)";
        }
        runs.runOn(made, "morning(100, 0) = 0", "morning(0, 3) = 0");
    }

    /** "SHILLINGS: costs of all MINUTES in which any is SEEN"; "DEAR: LEFT and SHILLINGS, together." */
    private static void shillingsOfEach() {
        runs.runOn(rule("steps 1;does 1;costs number;", "stay(0, 2)", "stay(7, 50)", "stay(7, 50)", "maid(0, 3, 0)", "maid(0, 5, 0)", "maid(0, 9, 1)"),
            "morning(0, 1) = 0", "morning(1, 1) = 8", "morning(2, 1) = 16", "morning(3, 1) = 16", "morning(100, 1) = 16", "morning(100, 3) = 88", "set(4, 0, 0)", "morning(100, 1) = 10", "morning(100, 20) = 2");
        runs.run("maid(0, 3, 0)", "morning(100, 1) = 0", "morning(100, 3) = 72");
    }

    /** "READY: the first MINUTE behind which no WORK is left in any ROOM that is on any LIST" */
    private static void readyInTheFirstMinute() {
        runs.run("morning(0, 2) = -1", "morning(1, 2) = 0", "morning(100, 2) = 0");
        runs.run("maid(0, 0, 0)", "morning(1, 2) = 0", "list(0, 0)", "morning(1, 2) = -1", "set(1, 0, 1)", "morning(0, 2) = -1", "morning(1, 2) = 0", "morning(100, 2) = 0", "set(1, 0, 0)", "morning(1, 2) = 0");
    }

    /** "NONE" */
    private static void readyInTheLastMinute() {
        String[] made = {"set(1, 0, 99)", "stay(0, 1)", "stay(7, 50)", "stay(7, 50)", "maid(0, 0, 0)", "list(0, 0)"};
        runs.runOn(made, "morning(99, 2) = -1", "morning(99, 50) = 1", "morning(100, 2) = 99", "morning(100, 50) = 0", "set(3, 0, 2)", "morning(100, 2) = -1", "morning(100, 50) = 1");
    }

    private static void readyOfAnyList() {
        runs.run("maid(0, 0, 0)", "maid(0, 0, 7)", "list(0, 0)", "list(1, 7)", "set(1, 7, 20)", "morning(100, 2) = 19", "morning(19, 2) = -1", "set(1, 7, 0)", "morning(100, 2) = 8");
        // a ROOM on her LIST that another does
        runs.run("set(0, 0, 0)", "maid(0, 0, 0)", "maid(0, 0, 7)", "list(0, 7)", "list(1, 7)", "morning(100, 2) = 8", "morning(100, 40) = 7", "clear(1)", "morning(100, 2) = -1");
        runs.run("maid(0, 0, 0)", "list(0, 1)", "list(0, 1)", "list(0, 1)", "list(0, 1)", "list(0, 0)", "morning(100, 2) = 24", "morning(24, 2) = -1");
    }

    private static void readyOfRoomsOnLists() {
        runs.run("maid(0, 0, 0)", "list(0, 7)", "morning(5, 2) = -1", "clear(0) = 1", "morning(5, 2) = 0", "list(0, 0)", "morning(9, 2) = 8", "morning(100, 2) = 8");
        runs.run("set(1, 5, 99)", "maid(0, 0, 0)", "list(0, 0)", "morning(100, 2) = 8", "morning(100, 0) = 153", "list(0, 5)", "morning(100, 2) = -1");
    }

    private static void askingChangesNothing() {
        runs.onlyAsks(Runs.HOUSE, "morning(100, 0)", "morning(100, 1)", "morning(100, 3)", "morning(50, 10)", "morning(50, 21)", "morning(50, 32)", "morning(0, 40)", "morning(100, 50)", "morning(100, 57)");
    }
}
