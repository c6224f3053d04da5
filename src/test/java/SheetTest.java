/** Promises 29 to 33: the host. */
public final class SheetTest {
    private static final Due due = new Due("SheetTest");
    private static final int LEAST = Integer.MIN_VALUE, MOST = Integer.MAX_VALUE;

    public static void main(String[] args) {
        sheet();
        cell();
        kept();
        copy();
        copyOver();
        copyRefuses();
        maids();
        maidsRefuse();
        maidsWhoCameAhead();
        taken();
        due.end();
    }

    private static void sheet() {
        NeverSeen x = new NeverSeen();
        int[][] bad = {{-1, 0, 1}, {4, 0, 1}, {0, -2, 1}, {0, 3, 1}, {0, 0, 41}, {4, -1, 0}, {0, 3, -1}, {0, 0, MOST}, {LEAST, 0, -1}};
        for (int[] b : bad) {
            due.is("sheet(" + b[0] + ", " + b[1] + ", " + b[2] + ")", x.sheet(b[0], b[1], b[2]), -2);
        }
        due.is("sheet(0, 0, -1)", x.sheet(0, 0, -1), -14);
        due.is("sheet(0, 2, least)", x.sheet(0, 2, LEAST), -14);
        due.is("nothing came", x.cell(0, 0, 1), -11);
        due.is("sheet(0, 2, 40)", x.sheet(0, 2, 40), 1);
        due.is("cell(0, 39, 5)", x.cell(0, 39, 5), 1);
        due.is("sheet(0, 2, 41)", x.sheet(0, 2, 41), -2);
        due.is("sheet(0, 2, -1)", x.sheet(0, 2, -1), -14);
        due.is("the row stays", x.cell(0, 39, 5), 1);
        due.is("sheet(0, -1, 99)", x.sheet(0, -1, 99), 1);
        due.is("missing", x.cell(0, 0, 1), -11);
        due.is("sheet(0, -1, -5)", x.sheet(0, -1, -5), 1);
        due.is("sheet(3, 1, 0)", x.sheet(3, 1, 0), 1);
        due.is("an empty row", x.cell(3, 0, 1), -12);
        Due.row(x, 1, 0, 5, 0, 7);
        x.sheet(1, 0, 3);
        due.is("all 0", x.maids(1, 0, 0, 1), 1);
        due.is("kind 0", x.told(0, 6), 0);
        due.is("room 0", x.told(0, 5), 0);
    }

    private static void cell() {
        NeverSeen x = new NeverSeen();
        x.sheet(0, 2, 3);
        due.is("cell(-1, 0, 0)", x.cell(-1, 0, 0), -2);
        due.is("cell(4, 0, 0)", x.cell(4, 0, 0), -2);
        due.is("cell(1, 9, 0)", x.cell(1, 9, 0), -11);
        due.is("cell(0, -1, 0)", x.cell(0, -1, 0), -12);
        due.is("cell(0, 3, 0)", x.cell(0, 3, 0), -12);
        due.is("cell(0, most, 0)", x.cell(0, MOST, 0), -12);
        due.is("cell(0, least, 0)", x.cell(0, LEAST, 0), -12);
        due.is("cell(0, 0, 0)", x.cell(0, 0, 0), 1);
        due.is("cell(0, 2, 0)", x.cell(0, 2, 0), 1);
    }

    /** What a cell of a sort keeps of a number: looked at by taking it for where the master is. */
    private static void kept() {
        int[] values = {3, 256 + 3, 65536 + 3, -253, -65533, 3 - 65536 * 4, 131, 128};
        boolean[] bytes = {true, true, true, true, true, true, false, false};
        boolean[] shorts = {true, false, true, false, true, true, false, false};
        NeverSeen x = new NeverSeen();
        x.stay(3, 50);
        for (int i = 0; i < values.length; i++) {
            Due.row(x, 0, 0, values[i]);
            due.is("a byte of " + values[i], x.from(0, 0), bytes[i] ? 100 : 0);
            Due.row(x, 0, 1, values[i]);
            due.is("a short of " + values[i], x.from(0, 0), shorts[i] ? 100 : 0);
            Due.row(x, 0, 2, values[i]);
            due.is("an int of " + values[i], x.from(0, 0), i == 0 ? 100 : 0);
        }
    }

    /** Whether a sheet tells just these rooms: by a round that is a minute in each of them, one behind the other. */
    private static int tells(NeverSeen x, int sheet, int... rooms) {
        for (int i = x.count(1); i < rooms.length; i++) {
            x.stay(0, 1);
        }
        for (int i = 0; i < rooms.length; i++) {
            x.set(2, i, rooms[i]);
        }
        return x.from(sheet, 1) == 0 && x.cell(sheet, rooms.length, 0) == -12 ? 1 : 0;
    }

    private static void copy() {
        for (int sort = 0; sort < 3; sort++) {
            NeverSeen x = new NeverSeen();
            Due.row(x, 0, sort, 1, 2, 3, 4);
            Due.row(x, 1, sort, 5, 5, 5, 5, 5);
            due.is("copy(0, 1, 1, 2, 3)", x.copy(0, 1, 1, 2, 3), 3);
            due.is("what came", tells(x, 1, 5, 5, 2, 3, 4), 1);
            due.is("copy(0, 0, 1, 0, 0)", x.copy(0, 0, 1, 0, 0), 0);
            due.is("nothing came", tells(x, 1, 5, 5, 2, 3, 4), 1);
            due.is("copy(0, 4, 1, 5, 0)", x.copy(0, 4, 1, 5, 0), 0);
            due.is("copy(0, 0, 1, 0, 4)", x.copy(0, 0, 1, 0, 4), 4);
            due.is("all came", tells(x, 1, 1, 2, 3, 4, 4), 1);
        }
    }

    private static void copyOver() {
        NeverSeen x = new NeverSeen();
        Due.row(x, 0, 0, 1, 2, 3, 4, 5);
        due.is("copy(0, 0, 0, 1, 4)", x.copy(0, 0, 0, 1, 4), 4);
        due.is("as they were", tells(x, 0, 1, 1, 2, 3, 4), 1);
        due.is("copy(0, 2, 0, 0, 3)", x.copy(0, 2, 0, 0, 3), 3);
        due.is("as they were, back", tells(x, 0, 2, 3, 4, 3, 4), 1);
    }

    private static void copyRefuses() {
        NeverSeen x = new NeverSeen();
        x.sheet(0, 0, 4);
        x.sheet(1, 0, 3);
        x.sheet(2, 1, 4);
        int[][] told = {
            {-1, 0, 0, 0, 0, -2}, {4, 0, 0, 0, 0, -2}, {0, 0, -1, 0, 0, -2}, {0, 0, 4, 0, 0, -2}, {3, 0, 4, 0, 0, -2},
            {0, 0, 3, 0, 0, -11}, {3, 0, 0, 0, 0, -11}, {3, 0, 3, 0, 0, -11}, {3, -1, 2, 0, -1, -11},
            {0, 0, 2, 0, 0, -13}, {2, -1, 0, 0, -1, -13}, {0, 9, 2, 9, 9, -13},
            {0, 0, 1, 0, -1, -12}, {0, -1, 1, 0, 1, -12}, {0, 0, 1, -1, 1, -12}, {0, 0, 1, 0, 4, -12}, {0, 2, 1, 0, 3, -12},
            {0, 0, 1, 1, 3, -12}, {0, 5, 1, 0, 0, -12}, {0, 0, 1, 4, 0, -12}, {0, MOST, 1, 0, 1, -12}, {0, 0, 1, MOST, MOST, -12},
            {0, 1, 1, 0, MOST, -12}, {0, LEAST, 1, 0, LEAST, -12}, {0, 0, 1, LEAST, 1, -12}, {0, 4, 1, 0, 1, -12},
        };
        for (int[] t : told) {
            String call = "copy(" + t[0] + ", " + t[1] + ", " + t[2] + ", " + t[3] + ", " + t[4] + ")";
            due.is(call, x.copy(t[0], t[1], t[2], t[3], t[4]), t[5]);
        }
    }

    private static void maids() {
        NeverSeen x = new NeverSeen();
        Due.row(x, 0, 2, 9, 1, 2, 3, 6, 0, 0, 5, 9, 7);
        due.is("maids(0, 2, 1, 3)", x.maids(0, 2, 1, 3), 2);
        due.is("count(0)", x.count(0), 2);
        due.is("kind of 0", x.told(0, 6), 1);
        due.is("number of 0", x.told(0, 4), 2);
        due.is("room of 0", x.told(0, 5), 3);
        due.is("kind of 1", x.told(1, 6), 5);
        due.is("number of 1", x.told(1, 4), 9);
        due.is("room of 1", x.told(1, 5), 7);
        due.is("maids(0, 2, 1, 0)", x.maids(0, 2, 1, 0), 0);
        Due.row(x, 0, 1, 0, 0, 0, 1, 1, 1, 2, 2, 2, 3, 3, 3);
        due.is("two have room", x.maids(0, 1, 0, 4), 2);
        due.is("kind of 3", x.told(3, 6), 1);
        due.is("none has room", x.maids(0, 1, 0, 4), 0);
        due.is("count(0)", x.count(0), 4);
    }

    private static void maidsRefuse() {
        NeverSeen x = new NeverSeen();
        x.sheet(0, 1, 12);
        int[][] told = {
            {-1, 1, 0, 1, -2}, {4, 1, 0, 1, -2}, {0, -1, 0, 1, -2}, {0, 3, 0, 1, -2}, {0, 1, 0, -1, -2}, {0, 1, 0, 5, -2},
            {1, 3, 0, 1, -2}, {1, 0, 0, 5, -2}, {0, 0, 0, 1, -13}, {0, 2, 99, 4, -13}, {0, 0, 0, 0, -13}, {1, 0, 0, 0, -11},
            {1, 1, -1, 4, -11}, {0, 1, -1, 1, -12}, {0, 1, 12, 1, -12}, {0, 1, 11, 1, -12}, {0, 1, 10, 1, -12},
            {0, 1, MOST, 4, -12}, {0, 1, MOST - 1, 1, -12}, {0, 1, LEAST, 1, -12},
        };
        for (int[] t : told) {
            String call = "maids(" + t[0] + ", " + t[1] + ", " + t[2] + ", " + t[3] + ")";
            due.is(call, x.maids(t[0], t[1], t[2], t[3]), t[4]);
        }
        due.is("none came", x.count(0), 0);
        due.is("maids(0, 1, 9, 1)", x.maids(0, 1, 9, 1), 1);
    }

    private static void maidsWhoCameAhead() {
        NeverSeen x = new NeverSeen();
        Due.row(x, 0, 0, 2, 3, 4, 1, 1, 1, 5, 5);
        due.is("maids(0, 0, 0, 3)", x.maids(0, 0, 0, 3), -12);
        due.is("two came", x.count(0), 2);
        due.is("kind of 1", x.told(1, 6), 1);
        due.is("maids(0, 0, 3, 4)", x.maids(0, 0, 3, 4), -12);
        due.is("one came", x.count(0), 3);
        due.is("maids(0, 0, 5, 4)", x.maids(0, 0, 5, 4), -12);
        due.is("one came", x.count(0), 4);
        due.is("full, and a place outside", x.maids(0, 0, 0, 4), -12);
        due.is("full", x.count(0), 4);
    }

    private static void taken() {
        String[] taken = {"0", "01", "02", "013", "024", "05"};
        for (int kind = 0; kind < 6; kind++) {
            NeverSeen x = new NeverSeen();
            x.maid(0, 0, 0);
            x.maid(kind, kind + 4, 0);
            for (int k = 0; k < 6; k++) {
                boolean is = taken[kind].indexOf('0' + k) >= 0;
                due.is("kind " + kind + " taken(1, " + k + ")", x.taken(1, k), is ? kind + 4 : -13);
            }
        }
        NeverSeen x = new NeverSeen();
        due.is("taken(0, 0)", x.taken(0, 0), -11);
        due.is("taken(-1, 0)", x.taken(-1, 0), -11);
        due.is("taken(4, 5)", x.taken(4, 5), -11);
        due.is("taken(0, 6)", x.taken(0, 6), -2);
        due.is("taken(0, -1)", x.taken(0, -1), -2);
        due.is("taken(most, least)", x.taken(MOST, LEAST), -2);
    }
}
