/** Promises 17 to 20: what would be best. */
public final class BestTest {
    private static final Due due = new Due("BestTest");

    public static void main(String[] args) {
        refusals();
        best();
        bestOfLikeOnes();
        bestOfAll();
        begin();
        beginOfLikeOnes();
        home();
        homeKeepsTheOrder();
        stairs();
        nothingChanges();
        due.end();
    }

    private static void refusals() {
        NeverSeen x = new NeverSeen();
        due.is("best(0, 0), no maid", x.best(0, 0), -2);
        due.is("begin(0, 0), no maid", x.begin(0, 0), -2);
        x.maid(0, 0, 0);
        int[][] bad = {{-1, 0}, {1, 0}, {0, -1}, {0, 2}, {Integer.MIN_VALUE, 0}, {0, Integer.MAX_VALUE}};
        for (int[] b : bad) {
            due.is("best(" + b[0] + ", " + b[1] + ")", x.best(b[0], b[1]), -2);
            due.is("begin(" + b[0] + ", " + b[1] + ")", x.begin(b[0], b[1]), -2);
        }
        due.is("home(-1)", x.home(-1), -2);
        due.is("home(2)", x.home(2), -2);
    }

    /** 20 work in each room below, 9 above, steps are long: she has not minutes enough, so fewer ways are better. */
    private static NeverSeen longDay() {
        NeverSeen x = Due.withRule("steps 9;does 1;costs 1;");
        for (int room = 0; room < 4; room++) {
            x.set(1, room, 20);
        }
        x.maid(0, 0, 0);
        return x;
    }

    private static void best() {
        NeverSeen x = longDay();
        due.is("an empty list", x.best(0, 0), 0);
        due.is("an empty list is dear", x.best(0, 1), 116);
        x.list(0, 3);
        due.is("one room", x.best(0, 0), 4);
        // 3 ways of 10 minutes, then 20 of work
        due.is("one room is dear", x.best(0, 1), 96);
        x.list(0, 1);
        x.list(0, 0);
        x.list(0, 2);
        // 0, 1, 2, 3 in turn: 3 ways of 10 minutes leave 70 of work
        due.is("four rooms", x.best(0, 0), 1234);
        due.is("four rooms are dear", x.best(0, 1), 46);
    }

    private static void bestOfLikeOnes() {
        NeverSeen x = new NeverSeen();
        x.maid(0, 0, 0);
        x.list(0, 2);
        x.list(0, 0);
        x.list(0, 1);
        due.is("as the list is, if all are like", x.best(0, 0), 312);
        due.is("all of it is done", x.best(0, 1), 45);
        x.clear(0);
        x.list(0, 3);
        x.list(0, 3);
        x.list(0, 0);
        due.is("rooms that stand twice", x.best(0, 0), 441);
    }

    /** All 120 orders are looked at: of room digits, that of the list set in that order is as dear as none else. */
    private static void bestOfAll() {
        NeverSeen x = longDay();
        x.stay(5, 3);
        x.stay(1, 17);
        x.stay(2, 11);
        x.stay(0, 9);
        int[] rooms = {7, 2, 0, 3, 1};
        int least = Integer.MAX_VALUE;
        int digits = 0;
        for (int code = 0; code < 3125; code++) {
            int[] order = {code / 625, code / 125 % 5, code / 25 % 5, code / 5 % 5, code % 5};
            if (differ(order)) {
                x.clear(0);
                int d = 0;
                for (int place : order) {
                    x.list(0, rooms[place]);
                    d = d * 10 + rooms[place] + 1;
                }
                int dear = x.morning(100, 3);
                if (dear < least) {
                    least = dear;
                    digits = d;
                }
            }
        }
        x.clear(0);
        for (int room : rooms) {
            x.list(0, room);
        }
        due.is("five rooms", x.best(0, 0), digits);
        due.is("five rooms are dear", x.best(0, 1), least);
    }

    private static boolean differ(int[] order) {
        int bits = 0;
        for (int place : order) {
            bits |= 1 << place;
        }
        return bits == 31;
    }

    private static void begin() {
        NeverSeen x = longDay();
        x.set(1, 2, 99);
        x.list(0, 2);
        due.is("begin where there is most to do", x.begin(0, 0), 2);
        due.is("99 of 195 are done", x.begin(0, 1), 96);
        x.stay(2, 50);
        due.is("he is in room 2: room 0 of those that are like", x.begin(0, 0), 0);
        x.set(5, 0, 2);
        due.is("now she is seen all morning", x.morning(100, 1), 100);
        due.is("begin elsewhere", x.begin(0, 1), 195);
    }

    private static void beginOfLikeOnes() {
        NeverSeen x = new NeverSeen();
        x.maid(0, 0, 7);
        due.is("the least of all", x.begin(0, 0), 0);
        x.stay(0, 50);
        due.is("the least of those in which he isn't", x.begin(0, 0), 1);
        due.is("dear then", x.begin(0, 1), 72);
    }

    private static void home() {
        NeverSeen x = new NeverSeen();
        due.is("nobody", x.home(0), -1);
        due.is("as now", x.home(1), 72);
        x.maid(0, 0, 0);
        x.maid(0, 0, 3);
        x.maid(0, 0, 3);
        x.stay(3, 50);
        due.is("of like ones the first", x.home(0), 1);
        due.is("100 shillings less", x.home(1), 172);
        x.set(5, 1, 1);
        due.is("she who is seen", x.home(0), 2);
        x.list(2, 3);
        x.set(5, 2, 2);
        due.is("none, if it isn't less", x.home(0), -1);
        due.is("as now", x.home(1), x.morning(100, 3));
    }

    /** Without maid 0 the others still go one behind the other as they did. */
    private static void homeKeepsTheOrder() {
        NeverSeen x = Due.withRule("steps 1;does 1+4*maids;costs 99;");
        for (int room = 0; room < 8; room++) {
            x.set(1, room, 0);
        }
        x.set(1, 0, 99);
        x.stay(7, 50);
        x.maid(0, 0, 7);
        x.maid(0, 0, 0);
        x.maid(0, 0, 0);
        x.list(1, 0);
        x.list(2, 0);
        due.is("at home is 0", x.home(0), 0);
        due.is("nothing is left then", x.home(1), 0);
        x.clear(1);
        x.list(1, 1);
        // maid 1 leaves ahead of maid 2, who works alone: 99 minutes of work in 100
        due.is("at home is 0", x.home(0), 0);
        due.is("all is done", x.home(1), 0);
        x.clear(2);
        x.list(2, 1);
        x.clear(1);
        x.list(1, 0);
        // 5 in minute 0 with maid 2 beside her, then 94 of 1
        due.is("dear without 0", x.home(1), 0);
    }

    private static void stairs() {
        NeverSeen x = new NeverSeen();
        due.is("nobody", x.stairs(), 0);
        x.maid(0, 0, 0);
        x.list(0, 4);
        due.is("9 that would be left", x.stairs(), 9);
        x.set(0, 0, 0);
        due.is("whatever stairs there are", x.stairs(), 9);
        due.is("they stay", x.told(0, 0), 0);
        x.stay(7, 1);
        x.stay(4, 50);
        // over the stairs she would come into room 4 when he is there
        x.set(0, 0, 3);
        due.is("stairs may be worth less than none", x.stairs() < 0 ? 1 : 0, 1);
        due.is("as the morning tells", x.stairs(), worth(x));
    }

    private static int worth(NeverSeen x) {
        x.set(0, 0, 0);
        int without = x.morning(100, 3);
        x.set(0, 0, 3);
        return without - x.morning(100, 3);
    }

    private static void nothingChanges() {
        NeverSeen x = longDay();
        x.list(0, 3);
        x.list(0, 1);
        x.maid(3, 5, 6);
        x.list(1, 7);
        x.stay(6, 30);
        int before = x.morning(100, 3);
        x.best(0, 0);
        x.begin(1, 0);
        x.home(0);
        x.stairs();
        due.is("the list", x.told(0, 10) * 10 + x.told(0, 11), 31);
        due.is("where she begins", x.told(1, 5), 6);
        due.is("maids", x.count(0), 2);
        due.is("stairs", x.told(0, 0), 3);
        due.is("dear", x.morning(100, 3), before);
    }
}
