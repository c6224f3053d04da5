/** Promises 1 to 8, 26 to 28: the house, its maids, ways; the image; what is counted. */
public final class HouseTest {
    private static final Due due = new Due("HouseTest");

    public static void main(String[] args) {
        constants();
        aNewObject();
        setTells();
        setRefuses();
        stays();
        maids();
        lists();
        told();
        ways();
        waysWithoutStairs();
        image();
        imageKeepsNoTexts();
        counts();
        due.end();
    }

    private static void constants() {
        due.is("NONE", NeverSeen.NONE, -1);
        due.is("BAD", NeverSeen.BAD, -2);
        due.is("STATE", NeverSeen.STATE, -3);
        due.is("FULL", NeverSeen.FULL, -4);
        due.is("NO", NeverSeen.NO, -4611686018427387904L);
    }

    private static void aNewObject() {
        NeverSeen x = new NeverSeen();
        int[] due0 = {0, 0, 3, 1, 0, 0, 72};
        for (int what = 0; what < due0.length; what++) {
            due.is("new count(" + what + ")", x.count(what), due0[what]);
        }
        for (int room = 0; room < 8; room++) {
            due.is("new told(" + room + ", 1)", x.told(room, 1), 9);
        }
        due.is("new told(0, 2)", x.told(0, 2), -2);
        due.is("new told(0, 4)", x.told(0, 4), -2);
        due.is("new master(0)", x.master(0), -1);
        due.is("new back()", x.back(), -3);
        for (int sheet = 0; sheet < 4; sheet++) {
            due.is("new cell(" + sheet + ", 0, 0)", x.cell(sheet, 0, 0), -11);
        }
    }

    private static void setTells() {
        NeverSeen x = new NeverSeen();
        x.stay(2, 7);
        x.stay(3, 8);
        x.maid(1, 4, 5);
        x.maid(2, 6, 1);
        due.is("set(0, 99, 0)", x.set(0, 99, 0), 3);
        due.is("set(0, -7, 2)", x.set(0, -7, 2), 0);
        due.is("told(-9, 0)", x.told(-9, 0), 2);
        due.is("set(0, 0, 1)", x.set(0, 0, 1), 2);
        due.is("set(0, 0, 3)", x.set(0, 0, 3), 1);
        due.is("set(1, 7, 99)", x.set(1, 7, 99), 9);
        due.is("set(1, 7, 0)", x.set(1, 7, 0), 99);
        due.is("told(7, 1)", x.told(7, 1), 0);
        due.is("told(6, 1)", x.told(6, 1), 9);
        due.is("set(2, 1, 7)", x.set(2, 1, 7), 3);
        due.is("set(2, 1, 0)", x.set(2, 1, 0), 7);
        due.is("told(0, 2)", x.told(0, 2), 2);
        due.is("told(1, 2)", x.told(1, 2), 0);
        due.is("set(3, 0, 1)", x.set(3, 0, 1), 7);
        due.is("set(3, 0, 50)", x.set(3, 0, 50), 1);
        due.is("told(0, 3)", x.told(0, 3), 50);
        due.is("told(1, 3)", x.told(1, 3), 8);
        due.is("set(4, 1, 0)", x.set(4, 1, 0), 6);
        due.is("set(4, 1, 9)", x.set(4, 1, 9), 0);
        due.is("told(1, 4)", x.told(1, 4), 9);
        due.is("told(0, 4)", x.told(0, 4), 4);
        due.is("set(5, 0, 0)", x.set(5, 0, 0), 5);
        due.is("set(5, 0, 7)", x.set(5, 0, 7), 0);
        due.is("told(0, 5)", x.told(0, 5), 7);
        due.is("told(1, 5)", x.told(1, 5), 1);
    }

    private static void setRefuses() {
        NeverSeen x = new NeverSeen();
        x.stay(2, 7);
        x.maid(1, 4, 5);
        int[][] bad = {
            {-1, 0, 0}, {6, 0, 0}, {0, 0, -1}, {0, 0, 4}, {1, -1, 5}, {1, 8, 5}, {1, 0, -1}, {1, 0, 100},
            {2, -1, 0}, {2, 1, 0}, {2, 0, -1}, {2, 0, 8}, {3, -1, 5}, {3, 1, 5}, {3, 0, 0}, {3, 0, 51},
            {4, -1, 0}, {4, 1, 0}, {4, 0, -1}, {4, 0, 10}, {5, -1, 0}, {5, 1, 0}, {5, 0, -1}, {5, 0, 8},
            {Integer.MAX_VALUE, 0, 0}, {Integer.MIN_VALUE, 0, 0}, {1, Integer.MIN_VALUE, 0}, {7, 0, 0},
        };
        for (int[] b : bad) {
            due.is("set(" + b[0] + ", " + b[1] + ", " + b[2] + ")", x.set(b[0], b[1], b[2]), -2);
        }
        due.is("stairs stay", x.told(0, 0), 3);
        due.is("work stays", x.count(6), 72);
        due.is("room of the stay stays", x.told(0, 2), 2);
        due.is("minutes of the stay stay", x.told(0, 3), 7);
        due.is("number stays", x.told(0, 4), 4);
        due.is("begin stays", x.told(0, 5), 5);
    }

    private static void stays() {
        NeverSeen x = new NeverSeen();
        due.is("stay(-1, 1)", x.stay(-1, 1), -2);
        due.is("stay(8, 1)", x.stay(8, 1), -2);
        due.is("stay(0, 0)", x.stay(0, 0), -2);
        due.is("stay(0, 51)", x.stay(0, 51), -2);
        due.is("none came", x.count(1), 0);
        for (int i = 1; i <= 8; i++) {
            due.is("stay " + i, x.stay(8 - i, i == 8 ? 50 : i), i);
        }
        due.is("stay(0, 1), full", x.stay(0, 1), -4);
        due.is("stay(8, 1), full", x.stay(8, 1), -2);
        due.is("stay(0, 51), full", x.stay(0, 51), -2);
        due.is("count(1)", x.count(1), 8);
        due.is("told(0, 2)", x.told(0, 2), 7);
        due.is("told(0, 3)", x.told(0, 3), 1);
        due.is("told(7, 2)", x.told(7, 2), 0);
        due.is("told(7, 3)", x.told(7, 3), 50);
    }

    private static void maids() {
        NeverSeen x = new NeverSeen();
        due.is("maid(-1, 0, 0)", x.maid(-1, 0, 0), -2);
        due.is("maid(6, 0, 0)", x.maid(6, 0, 0), -2);
        due.is("maid(0, -1, 0)", x.maid(0, -1, 0), -2);
        due.is("maid(0, 10, 0)", x.maid(0, 10, 0), -2);
        due.is("maid(0, 0, -1)", x.maid(0, 0, -1), -2);
        due.is("maid(0, 0, 8)", x.maid(0, 0, 8), -2);
        due.is("none came", x.count(0), 0);
        due.is("maid(5, 9, 7)", x.maid(5, 9, 7), 0);
        due.is("maid(0, 0, 0)", x.maid(0, 0, 0), 1);
        due.is("maid(3, 5, 2)", x.maid(3, 5, 2), 2);
        due.is("maid(4, 1, 1)", x.maid(4, 1, 1), 3);
        due.is("maid(0, 0, 0), full", x.maid(0, 0, 0), -4);
        due.is("maid(6, 0, 0), full", x.maid(6, 0, 0), -2);
        due.is("count(0)", x.count(0), 4);
        due.is("told(0, 6)", x.told(0, 6), 5);
        due.is("told(0, 4)", x.told(0, 4), 9);
        due.is("told(0, 5)", x.told(0, 5), 7);
        due.is("told(2, 6)", x.told(2, 6), 3);
        due.is("told(2, 4)", x.told(2, 4), 5);
        due.is("told(2, 5)", x.told(2, 5), 2);
        due.is("told(3, 7)", x.told(3, 7), 0);
    }

    private static void lists() {
        NeverSeen x = new NeverSeen();
        due.is("list(0, 0), no maid", x.list(0, 0), -2);
        due.is("clear(0), no maid", x.clear(0), -2);
        x.maid(0, 0, 0);
        x.maid(0, 0, 0);
        due.is("list(-1, 0)", x.list(-1, 0), -2);
        due.is("list(2, 0)", x.list(2, 0), -2);
        due.is("list(0, -1)", x.list(0, -1), -2);
        due.is("list(0, 8)", x.list(0, 8), -2);
        due.is("told(0, 10), empty", x.told(0, 10), -1);
        for (int i = 1; i <= 5; i++) {
            due.is("list(0, " + (8 - i) + ")", x.list(0, 8 - i), i);
        }
        due.is("list(0, 0), full", x.list(0, 0), -4);
        due.is("list(0, 8), full", x.list(0, 8), -2);
        due.is("told(0, 7)", x.told(0, 7), 5);
        due.is("told(1, 7)", x.told(1, 7), 0);
        for (int i = 0; i < 5; i++) {
            due.is("told(0, 1" + i + ")", x.told(0, 10 + i), 7 - i);
            due.is("told(1, 1" + i + ")", x.told(1, 10 + i), -1);
        }
        due.is("clear(-1)", x.clear(-1), -2);
        due.is("clear(2)", x.clear(2), -2);
        due.is("clear(0)", x.clear(0), 5);
        due.is("clear(0) anew", x.clear(0), 0);
        due.is("told(0, 7)", x.told(0, 7), 0);
        due.is("told(0, 10)", x.told(0, 10), -1);
        due.is("list(0, 3)", x.list(0, 3), 1);
        due.is("told(0, 10)", x.told(0, 10), 3);
        due.is("told(0, 11)", x.told(0, 11), -1);
    }

    private static void told() {
        NeverSeen x = new NeverSeen();
        x.stay(4, 9);
        x.maid(2, 3, 6);
        int[][] bad = {
            {0, -1}, {0, 8}, {0, 9}, {0, 15}, {-1, 1}, {8, 1}, {-1, 2}, {1, 2}, {1, 3}, {1, 4}, {1, 5}, {1, 6},
            {1, 7}, {1, 10}, {-1, 14}, {0, Integer.MIN_VALUE}, {0, Integer.MAX_VALUE}, {Integer.MIN_VALUE, 4},
        };
        for (int[] b : bad) {
            due.is("told(" + b[0] + ", " + b[1] + ")", x.told(b[0], b[1]), -2);
        }
        int[][] good = {{99, 0, 3}, {7, 1, 9}, {0, 2, 4}, {0, 3, 9}, {0, 4, 3}, {0, 5, 6}, {0, 6, 2}, {0, 7, 0}, {0, 14, -1}};
        for (int[] g : good) {
            due.is("told(" + g[0] + ", " + g[1] + ")", x.told(g[0], g[1]), g[2]);
        }
    }

    private static void ways() {
        NeverSeen x = new NeverSeen();
        int[][] bad = {{-1, 0, 0}, {8, 0, 0}, {0, -1, 0}, {0, 8, 0}, {0, 0, -1}, {0, 0, 2}, {0, 8, 1}};
        for (int[] b : bad) {
            due.is("way(" + b[0] + ", " + b[1] + ", " + b[2] + ")", x.way(b[0], b[1], b[2]), -2);
        }
        int[] farFrom0 = {0, 1, 2, 3, 1, 2, 3, 4};
        int[] nextFrom0 = {-1, 1, 1, 1, 4, 4, 4, 1};
        int[] nextFrom2 = {1, 1, -1, 3, 1, 1, 3, 3};
        for (int to = 0; to < 8; to++) {
            due.is("way(0, " + to + ", 0)", x.way(0, to, 0), farFrom0[to]);
            due.is("way(0, " + to + ", 1)", x.way(0, to, 1), nextFrom0[to]);
            due.is("way(2, " + to + ", 1)", x.way(2, to, 1), nextFrom2[to]);
            due.is("way(" + to + ", " + to + ", 1)", x.way(to, to, 1), -1);
            due.is("way(" + to + ", " + to + ", 0)", x.way(to, to, 0), 0);
        }
        x.set(0, 0, 2);
        due.is("right stairs: way(0, 4, 0)", x.way(0, 4, 0), 7);
        due.is("right stairs: way(0, 4, 1)", x.way(0, 4, 1), 1);
        due.is("right stairs: way(7, 0, 1)", x.way(7, 0, 1), 3);
        x.set(0, 0, 1);
        due.is("left stairs: way(7, 3, 0)", x.way(7, 3, 0), 7);
        due.is("left stairs: way(7, 3, 1)", x.way(7, 3, 1), 6);
        due.is("left stairs: way(4, 0, 1)", x.way(4, 0, 1), 0);
    }

    private static void waysWithoutStairs() {
        NeverSeen x = new NeverSeen();
        x.set(0, 0, 0);
        for (int room = 0; room < 8; room++) {
            for (int to = 0; to < 8; to++) {
                boolean same = room / 4 == to / 4;
                int far = same ? Math.abs(room - to) : 8;
                int next = !same || room == to ? -1 : room < to ? room + 1 : room - 1;
                due.is("no stairs: way(" + room + ", " + to + ", 0)", x.way(room, to, 0), far);
                due.is("no stairs: way(" + room + ", " + to + ", 1)", x.way(room, to, 1), next);
            }
        }
    }

    private static void image() {
        NeverSeen x = new NeverSeen();
        x.stay(1, 5);
        x.maid(1, 2, 3);
        x.list(0, 4);
        x.list(0, 5);
        x.set(0, 0, 2);
        x.set(1, 6, 40);
        due.is("image()", x.image(), 1);
        x.stay(2, 6);
        x.set(2, 0, 7);
        x.set(3, 0, 50);
        x.set(0, 0, 1);
        x.set(1, 6, 1);
        x.set(4, 0, 9);
        x.set(5, 0, 0);
        x.clear(0);
        x.list(0, 1);
        x.maid(5, 5, 5);
        x.list(1, 7);
        Due.feed(x, "steps 1; does 1; costs 2;");
        due.is("text()", x.text(), 1);
        x.force(1);
        for (int time = 0; time < 2; time++) {
            due.is("back()", x.back(), 1);
            due.is("stays", x.count(1), 1);
            due.is("room of the stay", x.told(0, 2), 1);
            due.is("minutes of the stay", x.told(0, 3), 5);
            due.is("stairs", x.told(0, 0), 2);
            due.is("work", x.told(6, 1), 40);
            due.is("number", x.told(0, 4), 2);
            due.is("begin", x.told(0, 5), 3);
            due.is("kind", x.told(0, 6), 1);
            due.is("listed", x.told(0, 7), 2);
            due.is("first on the list", x.told(0, 10), 4);
            due.is("second on the list", x.told(0, 11), 5);
            due.is("maids", x.count(0), 1);
            due.is("the one that came is gone", x.told(1, 4), -2);
            due.is("the rule", x.count(5), 0);
            x.set(0, 0, 0);
            x.force(1);
            x.list(0, 0);
        }
        due.is("maid where one was", x.maid(4, 4, 4), 1);
        due.is("her list is empty", x.told(1, 7), 0);
        due.is("her kind", x.told(1, 6), 4);
        due.is("image() anew", x.image(), 2);
        x.set(0, 0, 3);
        due.is("back()", x.back(), 2);
        due.is("stairs of the second image", x.told(0, 0), 0);
    }

    private static void imageKeepsNoTexts() {
        NeverSeen x = new NeverSeen();
        due.is("image() of none", x.image(), 0);
        Due.feed(x, "steps 1; does 1; costs 2;");
        x.text();
        x.feed('s');
        x.sheet(0, 2, 3);
        due.is("back()", x.back(), 0);
        due.is("texts stay", x.count(3), 2);
        due.is("the tape stays", x.count(4), 1);
        due.is("sheets stay", x.cell(0, 2, 5), 1);
    }

    private static void counts() {
        NeverSeen x = new NeverSeen();
        x.maid(0, 0, 0);
        x.maid(0, 0, 0);
        x.stay(0, 1);
        x.stay(0, 1);
        x.stay(0, 1);
        x.set(0, 0, 1);
        Due.feed(x, "steps 1; does 1; costs 2;");
        x.text();
        x.force(1);
        Due.feed(x, "abcde");
        x.set(1, 0, 99);
        x.set(1, 7, 0);
        int[] want = {2, 3, 1, 2, 5, 1, 153};
        for (int what = 0; what < want.length; what++) {
            due.is("count(" + what + ")", x.count(what), want[what]);
        }
        due.is("count(-1)", x.count(-1), -2);
        due.is("count(7)", x.count(7), -2);
    }
}
