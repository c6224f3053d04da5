/** Promises 21 to 25: mornings that were told, rounds that are drawn. */
public final class ToldTest {
    private static final Due due = new Due("ToldTest");

    public static void main(String[] args) {
        from();
        fromOut();
        fromRefuses();
        door();
        doorKinds();
        doorTexts();
        doorRefuses();
        doorChangesNothing();
        film();
        filmRefuses();
        drawn();
        chance();
        chanceRefuses();
        due.end();
    }

    private static void from() {
        NeverSeen x = new NeverSeen();
        x.stay(2, 3);
        x.stay(5, 2);
        Due.row(x, 0, 0, 2, 5, 5, 2);
        due.is("from minute 2 on, of each five", x.from(0, 0), 20);
        due.is("the least", x.from(0, 1), 2);
        Due.row(x, 0, 1, 2, 5, 5, 5);
        due.is("never", x.from(0, 0), 0);
        due.is("none", x.from(0, 1), -1);
        Due.row(x, 0, 2, 5);
        due.is("two of each five", x.from(0, 0), 40);
        due.is("the least", x.from(0, 1), 3);
        x.sheet(0, 0, 0);
        due.is("nothing told: all", x.from(0, 0), 100);
        due.is("nothing told: the least", x.from(0, 1), 0);
        // 40 minutes, from minute 99 on: the round goes on behind minute 99
        NeverSeen y = new NeverSeen();
        for (int i = 0; i < 8; i++) {
            y.stay(i, i == 7 ? 3 : 15);
        }
        int[] told = new int[40];
        for (int i = 0; i < 40; i++) {
            int at = (99 + i) % 108;
            told[i] = at < 105 ? at / 15 : 7;
        }
        Due.row(y, 3, 0, told);
        due.is("from 99 alone", y.from(3, 0), 1);
        due.is("from 99", y.from(3, 1), 99);
        Due.row(y, 3, 2, 255);
        due.is("no such room", y.from(3, 0), 0);
    }

    private static void fromOut() {
        NeverSeen x = new NeverSeen();
        Due.row(x, 0, 0, -1, -1);
        due.is("he is out", x.from(0, 0), 100);
        Due.row(x, 0, 0, 255, 255);
        due.is("a byte of 255 is -1", x.from(0, 0), 100);
        Due.row(x, 0, 2, 255, 255);
        due.is("an int of 255 isn't", x.from(0, 0), 0);
        Due.row(x, 0, 1, 65535);
        due.is("a short of 65535 is -1", x.from(0, 1), 0);
        Due.row(x, 0, 1, 0);
        due.is("he is in none", x.from(0, 0), 0);
    }

    private static void fromRefuses() {
        NeverSeen x = new NeverSeen();
        due.is("from(-1, 0)", x.from(-1, 0), -2);
        due.is("from(4, 0)", x.from(4, 0), -2);
        due.is("from(0, -1)", x.from(0, -1), -2);
        due.is("from(0, 2), missing", x.from(0, 2), -2);
        due.is("from(0, 0), missing", x.from(0, 0), -11);
    }

    private static void door() {
        NeverSeen x = Due.withRule("steps 3;does 9;costs 1;");
        x.maid(0, 4, 2);
        x.list(0, 3);
        Due.row(x, 0, 0, 2, 2, 2, 3, 3);
        due.is("it is so", x.door(0, 0, 0), 1);
        // a maid's 3 minutes; quick and bold ones 2, quiet ones 4, slow ones 8, new ones 6
        due.is("kinds", x.door(0, 0, 1), 1);
        due.is("numbers", x.door(0, 0, 2), 1023);
        due.is("begins", x.door(0, 0, 3), 4);
        due.is("texts: steps 1 aren't so", x.door(0, 0, 4), 2);
        Due.row(x, 0, 2, 2, 2, 3);
        due.is("it isn't so", x.door(0, 0, 0), 0);
        due.is("a quick one's or a bold one's", x.door(0, 0, 1), 10);
        Due.row(x, 0, 1, 2, 2);
        due.is("too short to tell", x.door(0, 0, 1), 63);
        due.is("nor the text", x.door(0, 0, 4), 2);
        x.sheet(0, 1, 0);
        due.is("nothing told", x.door(0, 0, 0), 1);
        due.is("nothing told: all begins", x.door(0, 0, 3), 255);
        Due.row(x, 0, 2, -1);
        due.is("she is never out", x.door(0, 0, 0), 0);
        Due.row(x, 0, 0, 3);
        due.is("room 3", x.door(0, 0, 3), 8);
    }

    private static void doorKinds() {
        NeverSeen x = Due.withRule("steps 4;does 9;costs 1;");
        x.maid(1, 9, 2);
        x.list(0, 3);
        Due.row(x, 0, 0, 2, 3);
        due.is("quick 9 takes 1", x.door(0, 0, 0), 1);
        due.is("its numbers: 9", x.door(0, 0, 2), 512);
        Due.row(x, 0, 0, 2, 2, 2, 3);
        due.is("quick 3, 4, 5 take 3", x.door(0, 0, 2), 56);
        x.stay(3, 50);
        x.set(5, 0, 2);
        Due.row(x, 0, 0, 2, 3);
        due.is("only a bold one goes where he is", x.door(0, 0, 1), 8);
    }

    private static void doorTexts() {
        NeverSeen x = new NeverSeen();
        for (int steps = 1; steps <= 5; steps++) {
            Due.feed(x, "steps " + (steps % 3 + 1) + ";does 1;costs 1;");
            x.text();
        }
        x.maid(0, 0, 0);
        x.list(0, 1);
        Due.row(x, 2, 0, 0, 1);
        due.is("texts 0 and 3", x.door(2, 0, 4), 9);
        Due.row(x, 2, 0, 0, 0, 1);
        due.is("texts 1 and 4", x.door(2, 0, 4), 18);
        Due.row(x, 2, 0, 0, 0, 0, 1);
        due.is("texts 2 and 5", x.door(2, 0, 4), 36);
        due.is("the rule stays", x.count(5), 0);
    }

    private static void doorRefuses() {
        NeverSeen x = new NeverSeen();
        due.is("door(0, 0, 0), no maid", x.door(0, 0, 0), -2);
        x.maid(0, 0, 0);
        due.is("door(-1, 0, 0)", x.door(-1, 0, 0), -2);
        due.is("door(4, 0, 0)", x.door(4, 0, 0), -2);
        due.is("door(0, -1, 0)", x.door(0, -1, 0), -2);
        due.is("door(0, 1, 0)", x.door(0, 1, 0), -2);
        due.is("door(0, 0, -1)", x.door(0, 0, -1), -2);
        due.is("door(0, 0, 5), missing", x.door(0, 0, 5), -2);
        due.is("door(0, 0, 4), missing", x.door(0, 0, 4), -11);
    }

    private static void doorChangesNothing() {
        NeverSeen x = Due.withRule("steps 3;does 9;costs 1;");
        x.maid(2, 4, 2);
        x.list(0, 3);
        x.sheet(0, 0, 5);
        for (int what = 0; what < 5; what++) {
            x.door(0, 0, what);
        }
        due.is("kind", x.told(0, 6), 2);
        due.is("number", x.told(0, 4), 4);
        due.is("begin", x.told(0, 5), 2);
        due.is("rule", x.count(5), 1);
    }

    private static void film() {
        NeverSeen x = Due.withRule("steps 2;does 9;costs 1;");
        x.stay(6, 2);
        x.stay(1, 1);
        x.maid(0, 0, 3);
        x.list(0, 7);
        due.is("film(1, 0, 4)", x.film(1, 0, 4), 4);
        due.is("the size", x.cell(1, 4, 0), -12);
        due.is("a row of bytes", x.maids(1, 0, 0, 0), 0);
        due.is("as bytes", x.maids(1, 2, 0, 0), -13);
        Due.row(x, 0, 0, 3, 3, 7, 7);
        due.is("begins by hand", x.door(0, 0, 3), 8);
        due.is("begins by film", x.door(1, 0, 3), 8);
        // the rooms as MAIDS of a KIND: 3, 3, 7 of the film
        due.is("maids(1, 0, 0, 1)", x.maids(1, 0, 0, 1), 1);
        due.is("kind of the film", x.told(1, 6), 3);
        due.is("number of the film", x.told(1, 4), 3);
        due.is("room of the film", x.told(1, 5), 7);
        due.is("film(2, -1, 3)", x.film(2, -1, 3), 3);
        due.is("from(2, 0)", x.from(2, 0), 34);
        due.is("from(2, 1)", x.from(2, 1), 0);
        due.is("film(2, 0, 0)", x.film(2, 0, 0), 0);
        due.is("an empty row", x.cell(2, 0, 0), -12);
        due.is("film(3, 0, 40)", x.film(3, 0, 40), 40);
        due.is("40 of it", x.cell(3, 39, 0), 1);
        due.is("not 41", x.cell(3, 40, 0), -12);
        NeverSeen out = new NeverSeen();
        out.film(0, -1, 5);
        due.is("he is out", out.from(0, 0), 100);
    }

    private static void filmRefuses() {
        NeverSeen x = new NeverSeen();
        x.maid(0, 0, 0);
        int[][] bad = {{-1, 0, 1}, {4, 0, 1}, {0, -2, 1}, {0, 1, 1}, {0, 0, -1}, {0, 0, 41}, {0, -1, 41}};
        for (int[] b : bad) {
            due.is("film(" + b[0] + ", " + b[1] + ", " + b[2] + ")", x.film(b[0], b[1], b[2]), -2);
        }
        due.is("the sheet is missing still", x.cell(0, 0, 0), -11);
    }

    private static void drawn() {
        int[] seeds = {0, 5, -77, Integer.MAX_VALUE, Integer.MIN_VALUE, 123456789};
        for (int seed : seeds) {
            NeverSeen x = busy();
            NeverSeen y = busy();
            int z = seed;
            for (int i = 0; i < 3; i++) {
                z = z * 1103515245 + 12345;
                y.set(3, i, (z >>> 9) % 50 + 1);
            }
            due.is("drawn(" + seed + ")", x.drawn(seed), y.morning(100, 3));
            due.is("the round stays", x.told(0, 3) * 100 + x.told(2, 3), 506);
        }
        due.is("no stays", new NeverSeen().drawn(9), 72);
    }

    private static NeverSeen busy() {
        NeverSeen x = new NeverSeen();
        x.stay(0, 5);
        x.stay(1, 9);
        x.stay(2, 6);
        x.maid(0, 0, 3);
        x.maid(4, 1, 0);
        x.list(0, 0);
        x.list(0, 2);
        x.list(1, 1);
        return x;
    }

    /** She is unseen, if his first two stays are of 61 minutes or more together: by then she has left room 1. */
    private static void chance() {
        int[] seeds = {0, 1, -60, 858991944, 1503235947, Integer.MAX_VALUE - 3, Integer.MIN_VALUE};
        for (int seed : seeds) {
            int unseen = 0;
            for (int n = 1; n <= 20; n++) {
                int z = (seed + n - 1) * 1103515245 + 12345;
                int first = (z >>> 9) % 50 + 1;
                z = z * 1103515245 + 12345;
                unseen += first + (z >>> 9) % 50 + 1 >= 61 ? 1 : 0;
                int divisor = divisor(unseen, n);
                NeverSeen x = walker();
                due.is("chance(" + seed + ", " + n + ", 0)", x.chance(seed, n, 0), unseen / divisor);
                due.is("chance(" + seed + ", " + n + ", 1)", x.chance(seed, n, 1), n / divisor);
                due.is("the round stays", x.told(0, 3) + x.told(1, 3) + x.told(2, 3), 3);
            }
        }
        NeverSeen x = new NeverSeen();
        due.is("no maid: all", x.chance(Integer.MAX_VALUE, 20, 0), 1);
        due.is("no maid: of one", x.chance(Integer.MAX_VALUE, 20, 1), 1);
        x.stay(0, 1);
        x.maid(0, 0, 0);
        due.is("always seen: none", x.chance(7, 20, 0), 0);
        due.is("always seen: of one", x.chance(7, 20, 1), 1);
        NeverSeen free = Due.withRule("steps 1;does 1;costs 0;");
        free.stay(0, 1);
        free.maid(0, 0, 0);
        due.is("seen for nothing is seen", free.chance(7, 20, 0), 0);
    }

    /** A maid who works in room 1 in minutes 0 .. 59, leaves it in minute 60 and stays in room 0; he is in 1 third. */
    private static NeverSeen walker() {
        NeverSeen x = new NeverSeen();
        x.stay(6, 1);
        x.stay(7, 1);
        x.stay(1, 1);
        x.set(1, 1, 60);
        x.set(1, 0, 0);
        x.maid(0, 0, 1);
        x.list(0, 1);
        x.list(0, 0);
        return x;
    }

    private static int divisor(int a, int b) {
        return a == 0 ? b : divisor(b % a, a);
    }

    private static void chanceRefuses() {
        NeverSeen x = new NeverSeen();
        long no = -4611686018427387904L;
        due.is("chance(0, 0, 0)", x.chance(0, 0, 0), no);
        due.is("chance(0, 21, 0)", x.chance(0, 21, 0), no);
        due.is("chance(0, -1, 1)", x.chance(0, -1, 1), no);
        due.is("chance(0, 1, -1)", x.chance(0, 1, -1), no);
        due.is("chance(0, 1, 2)", x.chance(0, 1, 2), no);
    }
}
