/** Promise 16, and what the KINDS do: mornings, minute by minute. */
public final class MorningTest {
    private static final Due due = new Due("MorningTest");
    private static final int ROOM = 10, SEEN = 20, WAITED = 30, AIM = 40;

    public static void main(String[] args) {
        refusals();
        takes();
        works();
        leastOfAKind();
        dares();
        othersDoNotDare();
        minuteByMinute();
        seenAheadOfWork();
        byNumbers();
        workThatIsDone();
        noWay();
        onAWayNobodySees();
        ready();
        costsOfAll();
        askingChangesNothing();
        due.end();
    }

    private static void refusals() {
        NeverSeen x = new NeverSeen();
        x.maid(0, 0, 0);
        x.maid(0, 0, 0);
        int[] bad = {-1, 4, 9, 12, 19, 22, 32, 42, 49, 58, 100, Integer.MIN_VALUE, Integer.MAX_VALUE};
        for (int what : bad) {
            due.is("morning(5, " + what + ")", x.morning(5, what), -2);
        }
        due.is("morning(-1, 0)", x.morning(-1, 0), -2);
        due.is("morning(101, 0)", x.morning(101, 0), -2);
        due.is("morning(100, 41)", x.morning(100, 41), -1);
        due.is("morning(0, 57)", x.morning(0, 57), 9);
    }

    /** The fewest minutes of a morning at whose end maid 0 is in a room, less the one in which she sets out. */
    private static int walked(NeverSeen x, int room) {
        for (int n = 0; n <= 100; n++) {
            if (x.morning(n, ROOM) == room) {
                return n - 1;
            }
        }
        return -99;
    }

    private static void takes() {
        int[] want = {4, 2, 5, 2, 10, 8};
        for (int kind = 0; kind < 6; kind++) {
            NeverSeen x = Due.withRule("steps 4;does 4;costs 1;");
            x.maid(kind, 7, 0);
            x.list(0, 1);
            due.is("kind " + kind + " takes", walked(x, 1), want[kind]);
        }
    }

    private static void works() {
        int[] want = {5, 6, 5, 6, 12, 2};
        for (int kind = 0; kind < 6; kind++) {
            NeverSeen x = Due.withRule("steps 4;does 5;costs 1;");
            x.set(1, 0, 50);
            x.maid(kind, 7, 0);
            x.list(0, 0);
            due.is("kind " + kind + " works", 50 - x.morning(1, 50), want[kind]);
        }
    }

    private static void leastOfAKind() {
        for (int kind = 1; kind <= 3; kind += 2) {
            NeverSeen x = Due.withRule("steps 2;does 1;costs 1;");
            x.maid(kind, 9, 0);
            x.list(0, 1);
            due.is("kind " + kind + " takes 1 at least", walked(x, 1), 1);
        }
        NeverSeen x = Due.withRule("steps 2;does 1;costs 1;");
        x.maid(5, 9, 0);
        x.list(0, 0);
        due.is("a new maid works 1 at least", x.morning(1, 50), 8);
    }

    /** A bold maid of number n goes where he is in each minute that n + 2 divides. */
    private static void dares() {
        for (int number = 0; number < 10; number++) {
            NeverSeen x = new NeverSeen();
            x.stay(1, 50);
            x.set(1, 0, 1);
            x.maid(3, number, 0);
            x.list(0, 0);
            x.list(0, 1);
            int waits = number + 1; // minute 0 is for the work
            due.is("bold " + number + " waits", x.morning(number + 2, WAITED), waits);
            due.is("bold " + number + " is there", x.morning(number + 4, ROOM), 1);
            due.is("bold " + number + " waits no more", x.morning(number + 5, WAITED), waits);
            due.is("bold " + number + " is seen", x.morning(number + 5, SEEN), 1);
        }
        NeverSeen x = new NeverSeen();
        x.stay(1, 50);
        x.maid(3, 9, 0);
        x.list(0, 1);
        due.is("bold in minute 0", x.morning(1, WAITED), 0);
    }

    private static void othersDoNotDare() {
        int[] shy = {0, 1, 2, 4, 5};
        for (int kind : shy) {
            NeverSeen x = new NeverSeen();
            x.stay(1, 50);
            x.maid(kind, 0, 0);
            x.list(0, 1);
            due.is("kind " + kind + " waits", x.morning(100, WAITED), 100);
            due.is("kind " + kind + " isn't seen", x.morning(100, SEEN), 0);
        }
    }

    /** Room 0 has 2 work, room 1 has 1; he is in 0 in minute 1, in 1 in minute 3. */
    private static void minuteByMinute() {
        NeverSeen x = new NeverSeen();
        for (int room = 0; room < 8; room++) {
            x.set(1, room, 0);
        }
        x.set(1, 0, 2);
        x.set(1, 1, 1);
        x.stay(7, 1);
        x.stay(0, 1);
        x.stay(7, 1);
        x.stay(1, 1);
        x.stay(7, 50);
        x.maid(0, 0, 0);
        x.list(0, 0);
        x.list(0, 1);
        // ends of minutes: works, is seen, works (next aim), waits, sets out, is in 1, works, waits, ..
        int[] room = {0, 0, 0, 0, 0, 0, 1, 1, 1};
        int[] aim = {0, 0, 0, 1, 1, 1, 1, -1, -1};
        int[] seen = {0, 0, 1, 1, 1, 1, 1, 1, 1};
        int[] waited = {0, 0, 0, 0, 1, 1, 1, 1, 2};
        int[] left = {3, 2, 2, 1, 1, 1, 1, 0, 0};
        int[] ready = {-1, -1, -1, -1, -1, -1, -1, 6, 6};
        for (int n = 0; n < room.length; n++) {
            String call = "morning(" + n + ", ";
            due.is(call + "0)", x.morning(n, 0), left[n]);
            due.is(call + "1)", x.morning(n, 1), seen[n]);
            due.is(call + "2)", x.morning(n, 2), ready[n]);
            due.is(call + "3)", x.morning(n, 3), left[n] + seen[n]);
            due.is(call + "10)", x.morning(n, ROOM), room[n]);
            due.is(call + "20)", x.morning(n, SEEN), seen[n]);
            due.is(call + "30)", x.morning(n, WAITED), waited[n]);
            due.is(call + "40)", x.morning(n, AIM), aim[n]);
            due.is(call + "51)", x.morning(n, 51), n > 6 ? 0 : 1);
        }
    }

    private static void seenAheadOfWork() {
        NeverSeen x = new NeverSeen();
        x.stay(0, 50);
        x.maid(0, 0, 0);
        x.maid(3, 0, 0);
        x.list(0, 0);
        x.list(1, 1);
        due.is("no work where he is", x.morning(40, 50), 9);
        due.is("she is seen", x.morning(40, SEEN), 40);
        due.is("a bold one doesn't leave either", x.morning(40, SEEN + 1), 40);
        due.is("she doesn't wait", x.morning(40, WAITED), 0);
    }

    /** One who leaves ahead of another leaves her alone in the same minute. */
    private static void byNumbers() {
        NeverSeen x = new NeverSeen();
        x.maid(0, 0, 0);
        x.maid(0, 0, 0);
        x.list(0, 1);
        x.list(1, 0);
        due.is("the second works alone", x.morning(1, 50), 8);
        x.clear(0);
        x.clear(1);
        x.list(0, 0);
        x.list(1, 1);
        due.is("the first works with one beside her", x.morning(1, 50), 7);
        due.is("alone from then on", x.morning(2, 50), 6);
        // one who comes is there for those behind her in the same minute
        x = new NeverSeen();
        x.maid(0, 0, 1);
        x.maid(0, 0, 0);
        x.list(0, 0);
        x.list(1, 0);
        due.is("alone, then with one that has come", x.morning(2, 50), 6);
        x.set(5, 0, 0);
        x.set(5, 1, 1);
        due.is("one that comes behind comes too late", x.morning(2, 50), 7);
    }

    private static void workThatIsDone() {
        NeverSeen x = new NeverSeen();
        x.set(1, 0, 0);
        x.set(1, 1, 3);
        x.maid(0, 0, 0);
        x.list(0, 0);
        x.list(0, 0);
        x.list(0, 1);
        due.is("a minute for a room that is done", x.morning(1, AIM), 0);
        due.is("then the same anew", x.morning(2, AIM), 1);
        due.is("work is 0 at least", x.morning(2, 50), 0);
        due.is("the last is behind her", x.morning(7, AIM), -1);
        due.is("not yet", x.morning(6, AIM), 1);
        due.is("she waits then", x.morning(10, WAITED), 3);
        due.is("ready", x.morning(10, 2), 6);
    }

    private static void noWay() {
        NeverSeen x = new NeverSeen();
        x.set(0, 0, 0);
        x.maid(0, 0, 0);
        x.list(0, 4);
        due.is("she waits", x.morning(100, WAITED), 100);
        due.is("her aim stays", x.morning(100, AIM), 4);
        x.set(0, 0, 2);
        due.is("far round", walked(x, 4), 13); // seven ways, each of two minutes, one to set out
    }

    private static void onAWayNobodySees() {
        NeverSeen x = Due.withRule("steps 6;does 1;costs 1;");
        x.stay(7, 1);
        x.stay(0, 50);
        x.maid(0, 0, 0);
        x.list(0, 1);
        due.is("on a way in the room from which she goes", x.morning(6, ROOM), 0);
        due.is("not seen there", x.morning(6, SEEN), 0);
        due.is("nor does she wait", x.morning(6, WAITED), 0);
        due.is("there", x.morning(7, ROOM), 1);
    }

    private static void ready() {
        NeverSeen x = new NeverSeen();
        due.is("no lists: from the first minute on", x.morning(1, 2), 0);
        due.is("no minute", x.morning(0, 2), -1);
        x.maid(0, 0, 0);
        x.maid(0, 0, 4);
        x.list(0, 0);
        due.is("nine minutes", x.morning(100, 2), 8);
        due.is("nine minutes and no more", x.morning(9, 2), 8);
        due.is("eight minutes are too few", x.morning(8, 2), -1);
        x.list(1, 5);
        due.is("the lists of all", x.morning(100, 2), 10);
        x.set(1, 0, 0);
        x.set(1, 5, 0);
        due.is("nothing to do", x.morning(1, 2), 0);
    }

    private static void costsOfAll() {
        NeverSeen x = Due.withRule("steps 1;does 1;costs 10*number+minute;");
        x.stay(2, 2);
        x.stay(3, 50);
        x.maid(0, 1, 2);
        x.maid(5, 2, 2);
        x.maid(2, 3, 1);
        due.is("10 + 20 in minute 0, 11 + 21 in minute 1", x.morning(50, 1), 62);
        due.is("dear", x.morning(50, 3), 134);
    }

    private static void askingChangesNothing() {
        NeverSeen x = new NeverSeen();
        x.maid(0, 0, 0);
        x.list(0, 0);
        due.is("morning(100, 50)", x.morning(100, 50), 0);
        due.is("told(0, 1)", x.told(0, 1), 9);
        due.is("morning(3, 50)", x.morning(3, 50), 6);
    }
}
