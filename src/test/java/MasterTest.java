/** Promises 12 to 15: where the master is, when a room is free, which never are. */
public final class MasterTest {
    private static final Due due = new Due("MasterTest");

    public static void main(String[] args) {
        master();
        masterOut();
        free();
        longest();
        never();
        due.end();
    }

    private static NeverSeen threeStays() {
        NeverSeen x = new NeverSeen();
        x.stay(6, 2);
        x.stay(1, 1);
        x.stay(6, 4);
        return x;
    }

    private static void master() {
        NeverSeen x = threeStays();
        int[] round = {6, 6, 1, 6, 6, 6, 6};
        for (int minute = 0; minute < 100; minute++) {
            due.is("master(" + minute + ")", x.master(minute), round[minute % 7]);
        }
        due.is("master(-1)", x.master(-1), -2);
        due.is("master(100)", x.master(100), -2);
        due.is("master(least int)", x.master(Integer.MIN_VALUE), -2);
    }

    private static void masterOut() {
        NeverSeen x = new NeverSeen();
        due.is("out: master(0)", x.master(0), -1);
        due.is("out: master(99)", x.master(99), -1);
        due.is("out: master(100)", x.master(100), -2);
        due.is("out: free(7, 99)", x.free(7, 99), 1);
        due.is("out: longest(7, 0)", x.longest(7, 0), 100);
        due.is("out: longest(7, 1)", x.longest(7, 1), 0);
        due.is("out: never(100)", x.never(100), 0);
    }

    private static void free() {
        NeverSeen x = threeStays();
        due.is("free(6, 0)", x.free(6, 0), 0);
        due.is("free(6, 2)", x.free(6, 2), 1);
        due.is("free(1, 0)", x.free(1, 0), 2);
        due.is("free(1, 2)", x.free(1, 2), 0);
        due.is("free(1, 3)", x.free(1, 3), 6);
        due.is("free(1, 94)", x.free(1, 94), 6);
        due.is("free(1, 99)", x.free(1, 99), 1);
        due.is("free(0, 0)", x.free(0, 0), 100);
        due.is("free(0, 99)", x.free(0, 99), 1);
        due.is("free(-1, 0)", x.free(-1, 0), -2);
        due.is("free(8, 0)", x.free(8, 0), -2);
        due.is("free(0, -1)", x.free(0, -1), -2);
        due.is("free(0, 100)", x.free(0, 100), -2);
    }

    private static void longest() {
        NeverSeen x = threeStays();
        due.is("longest(6, 0)", x.longest(6, 0), 1);
        due.is("longest(6, 1)", x.longest(6, 1), 2);
        due.is("longest(1, 0)", x.longest(1, 0), 6);
        due.is("longest(1, 1): the first of like ones", x.longest(1, 1), 3);
        due.is("longest(0, 0)", x.longest(0, 0), 100);
        due.is("longest(-1, 0)", x.longest(-1, 0), -2);
        due.is("longest(8, 0)", x.longest(8, 0), -2);
        due.is("longest(0, -1)", x.longest(0, -1), -2);
        due.is("longest(0, 2)", x.longest(0, 2), -2);
        NeverSeen always = new NeverSeen();
        always.stay(3, 50);
        due.is("always there: longest(3, 0)", always.longest(3, 0), 0);
        due.is("always there: longest(3, 1)", always.longest(3, 1), -1);
        due.is("always there: free(3, 57)", always.free(3, 57), 0);
        NeverSeen last = new NeverSeen(); // 3 from 0 to 49, 4 from 50 to 53, 3 from 54 on
        last.stay(3, 50);
        last.stay(4, 4);
        due.is("longest(3, 0)", last.longest(3, 0), 4);
        due.is("longest(4, 0)", last.longest(4, 0), 50);
        due.is("longest(4, 1)", last.longest(4, 1), 0);
        NeverSeen end = new NeverSeen(); // 2 in 0 .. 29, 5 in 30 .. 69, 2 in 70 .. 99
        end.stay(2, 30);
        end.stay(5, 40);
        due.is("longest(5, 0)", end.longest(5, 0), 30);
        due.is("longest(5, 1)", end.longest(5, 1), 0);
        end.set(3, 0, 20); // 2 in 0 .. 19, 5 in 20 .. 59, 2 in 60 .. 79, 5 in 80 .. 99
        due.is("longest(2, 0)", end.longest(2, 0), 40);
        due.is("longest(2, 1)", end.longest(2, 1), 20);
    }

    private static void never() {
        NeverSeen x = threeStays();
        due.is("never(0)", x.never(0), 0);
        due.is("never(1)", x.never(1), 0);
        due.is("never(2)", x.never(2), 64);
        due.is("never(6)", x.never(6), 64);
        due.is("never(7)", x.never(7), 66);
        due.is("never(100)", x.never(100), 66);
        due.is("never(-1)", x.never(-1), -2);
        due.is("never(101)", x.never(101), -2);
        NeverSeen always = new NeverSeen();
        always.stay(0, 1);
        due.is("always there: never(0)", always.never(0), 0);
        due.is("always there: never(1)", always.never(1), 1);
    }
}
