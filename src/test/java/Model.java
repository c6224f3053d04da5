import java.util.ArrayList;
import java.util.Arrays;
import java.util.List;

/**
 * The document once more, written in another way than the program: ways by walking them, texts by a machine
 * of marks instead of by descent, kinds as classes, each question on a house copied whole.
 */
final class Model {
    static final int BAD = -2, STATE = -3, FULL = -4;
    static final int[][] SHAPES = {{-128, 127}, {-32768, 32767}, {Integer.MIN_VALUE, Integer.MAX_VALUE}};

    static class Kind {
        int takes(int v, int number) {
            return v;
        }

        int works(int v, int number) {
            return v;
        }

        boolean dares(int minute, int number) {
            return false;
        }
    }

    static class Quick extends Kind {
        @Override
        int takes(int v, int number) {
            return super.takes(v, number) - number / 3;
        }

        @Override
        int works(int v, int number) {
            return super.works(v, number) + 1;
        }
    }

    static class Quiet extends Kind {
        @Override
        int takes(int v, int number) {
            return super.takes(v, number) + 1;
        }
    }

    static class Bold extends Quick {
        @Override
        boolean dares(int minute, int number) {
            return minute % (number + 2) == 0;
        }
    }

    static class Slow extends Quiet {
        @Override
        int takes(int v, int number) {
            return super.takes(v, number) * 2;
        }

        @Override
        int works(int v, int number) {
            return super.works(v, number) + number;
        }
    }

    static class New extends Kind {
        @Override
        int takes(int v, int number) {
            return super.takes(v, number) * 2;
        }

        @Override
        int works(int v, int number) {
            return super.works(v, number) / 2;
        }
    }

    static final Kind[] KINDS = {new Kind(), new Quick(), new Quiet(), new Bold(), new Slow(), new New()};

    static final class Maid {
        int kind, number, begins;
        List<Integer> list = new ArrayList<>();

        Maid(int kind, int number, int begins) {
            this.kind = kind;
            this.number = number;
            this.begins = begins;
        }
    }

    static final class House {
        int stairs = 3;
        List<int[]> round = new ArrayList<>();
        int[] work = {9, 9, 9, 9, 9, 9, 9, 9};
        List<Maid> maids = new ArrayList<>();
        int rule = 0;

        House copied() {
            House h = new House();
            h.stairs = stairs;
            for (int[] stay : round) {
                h.round.add(stay.clone());
            }
            h.work = work.clone();
            for (Maid m : maids) {
                Maid n = new Maid(m.kind, m.number, m.begins);
                n.list.addAll(m.list);
                h.maids.add(n);
            }
            h.rule = rule;
            return h;
        }

        int master(int minute) {
            int at = 0;
            while (!round.isEmpty()) {
                for (int[] stay : round) {
                    at += stay[1];
                    if (minute < at) {
                        return stay[0];
                    }
                }
            }
            return -1;
        }

        boolean beside(int a, int b) {
            int low = Math.min(a, b);
            int high = Math.max(a, b);
            return high - low == 1 && high != 4 || low == 0 && high == 4 && (stairs & 1) != 0
                || low == 3 && high == 7 && (stairs & 2) != 0;
        }

        static final int[][][] FAR = new int[4][][];

        /** Walked once for each STAIRS. */
        int far(int a, int b) {
            if (FAR[stairs] == null) {
                int[][] all = new int[8][8];
                for (int r = 0; r < 64; r++) {
                    all[r / 8][r % 8] = walk(r / 8, r % 8);
                }
                FAR[stairs] = all;
            }
            return FAR[stairs][a][b];
        }

        int walk(int a, int b) {
            boolean[] been = new boolean[8];
            been[a] = true;
            for (int steps = 0; steps < 8; steps++) {
                if (been[b]) {
                    return steps;
                }
                boolean[] then = been.clone();
                for (int r = 0; r < 8; r++) {
                    for (int s = 0; s < 8; s++) {
                        then[s] |= been[r] && beside(r, s);
                    }
                }
                been = then;
            }
            return 8;
        }

        int next(int a, int b) {
            int best = -1;
            for (int r = 7; r >= 0; r--) {
                if (a != b && beside(a, r) && far(r, b) < 8 && (best < 0 || far(r, b) <= far(best, b))) {
                    best = r;
                }
            }
            return best;
        }
    }

    static final class Day {
        int[] at, to, way, seen, waited, place, work;
        int shillings, ready = -1;
        List<int[]> trail = new ArrayList<>();
    }

    /** A text as three rows of tokens in the order in which a stack works on them. */
    static final class Text {
        List<List<String>> parts = new ArrayList<>();
    }

    House house = new House();
    House kept = null;
    List<Text> texts = new ArrayList<>();
    StringBuilder tape = new StringBuilder();
    int[][] rows = new int[4][];
    int[] sorts = {-1, -1, -1, -1};

    Model() {
        tape.append("steps 1 ; does 1 + maids ; costs 1 ;");
        text();
    }

    // ---- texts

    static final class Fault extends Exception {
        private static final long serialVersionUID = 1L;
        final int place;

        Fault(int place) {
            this.place = place;
        }
    }

    static final List<String> NAMES = List.of("minute", "room", "left", "number", "beside", "maids");
    static final List<String> KEYS = List.of("steps", "does", "costs", "or", "and", "not");

    /** Tokens ahead of the first byte that begins none; where each stands; last the end or what is wrong. */
    static List<String> tokens(String t, List<Integer> places) {
        List<String> found = new ArrayList<>();
        int i = 0;
        while (true) {
            while (i < t.length() && (t.charAt(i) == 32 || t.charAt(i) == 10)) {
                i++;
            }
            places.add(i);
            if (i == t.length()) {
                found.add("END");
                return found;
            }
            int j = i;
            while (j < t.length() && t.charAt(j) >= 'a' && t.charAt(j) <= 'z') {
                j++;
            }
            if (j == i) {
                while (j < t.length() && t.charAt(j) >= '0' && t.charAt(j) <= '9') {
                    j++;
                }
            }
            if (j == i && "();+-*<=".indexOf(t.charAt(i)) >= 0) {
                j++;
            }
            String token = t.substring(i, j);
            boolean number = j > i && t.charAt(i) >= '0' && t.charAt(i) <= '9';
            boolean word = j > i && t.charAt(i) >= 'a' && t.charAt(i) <= 'z';
            if (j == i || number && j - i > 4 || word && !NAMES.contains(token) && !KEYS.contains(token)) {
                found.add("WRONG");
                return found;
            }
            found.add(token);
            i = j;
        }
    }

    static int rank(String sign) {
        switch (sign) {
            case "or": return 1;
            case "and": return 2;
            case "not": return 3;
            case "<": case "=": return 4;
            case "+": case "-": return 5;
            case "*": return 6;
            case "neg": return 7;
            default: return 0;
        }
    }

    static Text read(String t) throws Fault {
        List<Integer> places = new ArrayList<>();
        List<String> tokens = tokens(t, places);
        Text text = new Text();
        int i = 0;
        for (String key : List.of("steps", "does", "costs")) {
            if (!tokens.get(i).equals(key)) {
                throw new Fault(places.get(i));
            }
            i++;
            List<String> done = new ArrayList<>();
            List<String> open = new ArrayList<>(); // signs that wait for what is behind them
            boolean operand = true; // one is due
            boolean notMayStand = true;
            boolean compared = false;
            List<Boolean> comparedOutside = new ArrayList<>();
            while (true) {
                String token = tokens.get(i);
                int place = places.get(i);
                i++;
                int deep = 0;
                for (String o : open) {
                    deep += o.equals("(") || o.equals("not") || o.equals("neg") ? 1 : 0;
                }
                if (operand) {
                    if (NAMES.contains(token) || token.matches("[0-9]+")) {
                        done.add(token);
                        operand = false;
                        popNegs(open, done);
                    } else if (token.equals("not") && notMayStand && deep < 5) {
                        open.add("not");
                    } else if (token.equals("-") && deep < 5) {
                        open.add("neg");
                        notMayStand = false;
                    } else if (token.equals("(") && deep < 5) {
                        open.add("(");
                        comparedOutside.add(compared);
                        compared = false;
                        notMayStand = true;
                    } else {
                        throw new Fault(place);
                    }
                } else if (token.equals(")") && !comparedOutside.isEmpty()) {
                    pop(open, done, 1);
                    open.remove(open.size() - 1);
                    compared = comparedOutside.remove(comparedOutside.size() - 1);
                    popNegs(open, done);
                } else if (token.equals(";") && comparedOutside.isEmpty()) {
                    pop(open, done, 1);
                    break;
                } else if (rank(token) > 0 && !token.equals("not") && !(rank(token) == 4 && compared)) {
                    pop(open, done, rank(token));
                    open.add(token);
                    operand = true;
                    notMayStand = rank(token) <= 2;
                    compared = rank(token) > 2 && (compared || rank(token) == 4);
                } else {
                    throw new Fault(place);
                }
            }
            text.parts.add(done);
        }
        if (!tokens.get(i).equals("END")) {
            throw new Fault(places.get(i));
        }
        return text;
    }

    static void popNegs(List<String> open, List<String> done) {
        pop(open, done, 7);
    }

    static void pop(List<String> open, List<String> done, int rank) {
        while (!open.isEmpty() && rank(open.get(open.size() - 1)) >= rank) {
            done.add(open.remove(open.size() - 1));
        }
    }

    static int value(List<String> code, int[] names) {
        List<Integer> stack = new ArrayList<>();
        for (String c : code) {
            if (NAMES.contains(c)) {
                stack.add(names[NAMES.indexOf(c)]);
            } else if (Character.isDigit(c.charAt(0))) {
                stack.add(Integer.parseInt(c));
            } else {
                int b = stack.remove(stack.size() - 1);
                if (c.equals("neg")) {
                    stack.add(-b);
                } else if (c.equals("not")) {
                    stack.add(b == 0 ? 1 : 0);
                } else {
                    int a = stack.remove(stack.size() - 1);
                    boolean is = c.equals("<") ? a < b : c.equals("=") ? a == b : c.equals("and") ? a != 0 && b != 0 : a != 0 || b != 0;
                    stack.add(c.equals("+") ? a + b : c.equals("-") ? a - b : c.equals("*") ? a * b : is ? 1 : 0);
                }
            }
        }
        return stack.get(0);
    }

    // ---- mornings

    int tells(House h, Day d, int part, int m, int minute, int beside) {
        int others = 0;
        for (int o = 0; o < h.maids.size(); o++) {
            others += o != m && d.way[o] == 0 && d.at[o] == d.at[m] ? 1 : 0;
        }
        int[] names = {minute, d.at[m], d.work[d.at[m]], h.maids.get(m).number, beside, others};
        int v = value(texts.get(h.rule).parts.get(part), names);
        return part == 2 ? Math.min(99, Math.max(0, v)) : Math.min(9, Math.max(1, v));
    }

    static int aim(Maid maid, int place) {
        return place < maid.list.size() ? maid.list.get(place) : -1;
    }

    /** A morning without one maid (-1: with all). */
    Day run(House h, int n, int without) {
        int size = h.maids.size();
        Day d = new Day();
        d.at = new int[size];
        d.to = new int[size];
        d.way = new int[size];
        d.seen = new int[size];
        d.waited = new int[size];
        d.place = new int[size];
        d.work = h.work.clone();
        for (int m = 0; m < size; m++) {
            d.at[m] = m == without ? -7 : h.maids.get(m).begins;
        }
        for (int minute = 0; minute < n; minute++) {
            int master = h.master(minute);
            for (int m = 0; m < size; m++) {
                if (m != without) {
                    turn(h, d, m, minute, master);
                }
            }
            int left = 0;
            for (int m = 0; m < size; m++) {
                for (int room : h.maids.get(m).list) {
                    left += m == without ? 0 : d.work[room];
                }
            }
            if (left == 0 && d.ready < 0) {
                d.ready = minute;
            }
            d.trail.add(d.at.clone());
        }
        return d;
    }

    void turn(House h, Day d, int m, int minute, int master) {
        Maid maid = h.maids.get(m);
        Kind kind = KINDS[maid.kind];
        int here = d.at[m];
        int aim = aim(maid, d.place[m]);
        if (d.way[m] > 0) {
            if (--d.way[m] == 0) {
                d.at[m] = d.to[m];
            }
            return;
        }
        if (master == here) {
            d.seen[m]++;
            d.shillings += tells(h, d, 2, m, minute, 0);
            return;
        }
        if (aim == here) {
            int works = Math.max(1, kind.works(tells(h, d, 1, m, minute, 0), maid.number));
            d.work[here] = Math.max(0, d.work[here] - works);
            d.place[m] += d.work[here] == 0 ? 1 : 0;
            return;
        }
        if (aim >= 0 && h.far(here, aim) < 8) {
            int next = h.next(here, aim);
            if (next != master || kind.dares(minute, maid.number)) {
                d.way[m] = Math.max(1, kind.takes(tells(h, d, 0, m, minute, next), maid.number));
                d.to[m] = next;
                return;
            }
        }
        d.waited[m]++;
    }

    static int sum(int[] row) {
        return Arrays.stream(row).sum();
    }

    int dear(House h, int without) {
        Day d = run(h, 100, without);
        return sum(d.work) + d.shillings;
    }

    // ---- the calls

    static boolean in(int v, int least, int most) {
        return least <= v && v <= most;
    }

    boolean isMaid(int m) {
        return in(m, 0, house.maids.size() - 1);
    }

    int told(int of, int what) {
        if (what == 0) {
            return house.stairs;
        }
        if (what == 1) {
            return in(of, 0, 7) ? house.work[of] : BAD;
        }
        if (what == 2 || what == 3) {
            return in(of, 0, house.round.size() - 1) ? house.round.get(of)[what - 2] : BAD;
        }
        if (!in(what, 4, 7) && !in(what, 10, 14) || !isMaid(of)) {
            return BAD;
        }
        Maid m = house.maids.get(of);
        return what == 4 ? m.number : what == 5 ? m.begins : what == 6 ? m.kind : what == 7 ? m.list.size() : aim(m, what - 10);
    }

    int set(int what, int of, int v) {
        int[][] bounds = {{0, 3}, {0, 99}, {0, 7}, {1, 50}, {0, 9}, {0, 7}};
        if (!in(what, 0, 5) || !in(v, bounds[what][0], bounds[what][1]) || told(of, what) == BAD) {
            return BAD;
        }
        int was = told(of, what);
        if (what == 0) {
            house.stairs = v;
        } else if (what == 1) {
            house.work[of] = v;
        } else if (what < 4) {
            house.round.get(of)[what - 2] = v;
        } else if (what == 4) {
            house.maids.get(of).number = v;
        } else {
            house.maids.get(of).begins = v;
        }
        return was;
    }

    int stay(int room, int minutes) {
        if (!in(room, 0, 7) || !in(minutes, 1, 50)) {
            return BAD;
        }
        if (house.round.size() == 8) {
            return FULL;
        }
        house.round.add(new int[] {room, minutes});
        return house.round.size();
    }

    int maid(int kind, int number, int room) {
        if (!in(kind, 0, 5) || !in(number, 0, 9) || !in(room, 0, 7)) {
            return BAD;
        }
        if (house.maids.size() == 4) {
            return FULL;
        }
        house.maids.add(new Maid(kind, number, room));
        return house.maids.size() - 1;
    }

    int list(int maid, int room) {
        if (!isMaid(maid) || !in(room, 0, 7)) {
            return BAD;
        }
        List<Integer> list = house.maids.get(maid).list;
        if (list.size() == 5) {
            return FULL;
        }
        list.add(room);
        return list.size();
    }

    int clear(int maid) {
        if (!isMaid(maid)) {
            return BAD;
        }
        int had = house.maids.get(maid).list.size();
        house.maids.get(maid).list.clear();
        return had;
    }

    int way(int room, int to, int what) {
        if (!in(room, 0, 7) || !in(to, 0, 7) || !in(what, 0, 1)) {
            return BAD;
        }
        return what == 0 ? house.far(room, to) : house.next(room, to);
    }

    int feed(int letter) {
        if (!in(letter, 0, 255)) {
            return BAD;
        }
        if (tape.length() == 160) {
            return FULL;
        }
        tape.append((char) letter);
        return tape.length();
    }

    int text() {
        if (texts.size() == 6) {
            return FULL;
        }
        String t = tape.toString();
        tape.setLength(0);
        try {
            texts.add(read(t));
            return texts.size() - 1;
        } catch (Fault f) {
            return -100 - f.place;
        }
    }

    int force(int text) {
        if (!in(text, 0, texts.size() - 1)) {
            return BAD;
        }
        int was = house.rule;
        house.rule = text;
        return was;
    }

    int master(int minute) {
        return in(minute, 0, 99) ? house.master(minute) : BAD;
    }

    int free(int room, int minute) {
        if (!in(room, 0, 7) || !in(minute, 0, 99)) {
            return BAD;
        }
        for (int m = minute; m < 100; m++) {
            if (house.master(m) == room) {
                return m - minute;
            }
        }
        return 100 - minute;
    }

    int longest(int room, int what) {
        if (!in(room, 0, 7) || !in(what, 0, 1)) {
            return BAD;
        }
        int most = 0;
        int first = -1;
        for (int m = 99; m >= 0; m--) {
            if (free(room, m) > 0 && free(room, m) >= most) {
                most = free(room, m);
                first = m;
            }
        }
        return what == 0 ? most : first;
    }

    int never(int k) {
        int rooms = 0;
        for (int room = 0; room < 8; room++) {
            rooms += longest(room, 0) < k ? 1 << room : 0;
        }
        return in(k, 0, 100) ? rooms : BAD;
    }

    int morning(int n, int what) {
        boolean ofMaid = in(what, 10, 49) && isMaid(what % 10);
        if (!in(n, 0, 100) || !in(what, 0, 3) && !ofMaid && !in(what, 50, 57)) {
            return BAD;
        }
        Day d = run(house, n, -1);
        int m = what % 10;
        switch (what / 10) {
            case 0:
                return new int[] {sum(d.work), d.shillings, d.ready, sum(d.work) + d.shillings}[what];
            case 1:
                return d.at[m];
            case 2:
                return d.seen[m];
            case 3:
                return d.waited[m];
            case 4:
                return aim(house.maids.get(m), d.place[m]);
            default:
                return d.work[what - 50];
        }
    }

    int best(int maid, int what) {
        if (!isMaid(maid) || !in(what, 0, 1)) {
            return BAD;
        }
        int[] found = {Integer.MAX_VALUE, 0};
        House h = house.copied();
        bestBehind(h, h.maids.get(maid), new ArrayList<>(house.maids.get(maid).list), new ArrayList<>(), found);
        return found[1 - what];
    }

    void bestBehind(House h, Maid m, List<Integer> rest, List<Integer> taken, int[] found) {
        if (rest.isEmpty()) {
            m.list = taken;
            int dear = dear(h, -1);
            if (dear < found[0]) {
                found[0] = dear;
                found[1] = 0;
                for (int room : taken) {
                    found[1] = found[1] * 10 + room + 1;
                }
            }
        }
        for (int i = 0; i < rest.size(); i++) {
            List<Integer> others = new ArrayList<>(rest);
            List<Integer> then = new ArrayList<>(taken);
            then.add(others.remove(i));
            bestBehind(h, m, others, then, found);
        }
    }

    int begin(int maid, int what) {
        if (!isMaid(maid) || !in(what, 0, 1)) {
            return BAD;
        }
        int[] dear = new int[8];
        int best = 0;
        for (int room = 0; room < 8; room++) {
            House h = house.copied();
            h.maids.get(maid).begins = room;
            dear[room] = dear(h, -1);
            best = dear[room] < dear[best] ? room : best;
        }
        return what == 0 ? best : dear[best];
    }

    int home(int what) {
        int least = dear(house, -1);
        int who = -1;
        for (int m = 0; m < house.maids.size(); m++) {
            int dear = dear(house, m);
            who = dear < least ? m : who;
            least = Math.min(least, dear);
        }
        return what == 0 ? who : what == 1 ? least : BAD;
    }

    int stairs() {
        House none = house.copied();
        none.stairs = 0;
        House both = house.copied();
        both.stairs = 3;
        return dear(none, -1) - dear(both, -1);
    }

    int from(int sheet, int what) {
        if (!in(sheet, 0, 3) || !in(what, 0, 1)) {
            return BAD;
        }
        if (sorts[sheet] < 0) {
            return -11;
        }
        List<Integer> found = new ArrayList<>();
        for (int ahead = 0; ahead < 100; ahead++) {
            boolean all = true;
            for (int i = 0; i < rows[sheet].length; i++) {
                all &= rows[sheet][i] == house.master(ahead + i);
            }
            if (all) {
                found.add(ahead);
            }
        }
        return what == 0 ? found.size() : found.isEmpty() ? -1 : found.get(0);
    }

    int door(int sheet, int maid, int what) {
        if (!in(sheet, 0, 3) || !isMaid(maid) || !in(what, 0, 4)) {
            return BAD;
        }
        if (sorts[sheet] < 0) {
            return -11;
        }
        int[] many = {1, 6, 10, 8, texts.size()};
        int bits = 0;
        for (int v = 0; v < many[what]; v++) {
            House h = house.copied();
            Maid m = h.maids.get(maid);
            m.kind = what == 1 ? v : m.kind;
            m.number = what == 2 ? v : m.number;
            m.begins = what == 3 ? v : m.begins;
            h.rule = what == 4 ? v : h.rule;
            Day d = run(h, rows[sheet].length, -1);
            boolean all = true;
            for (int i = 0; i < rows[sheet].length; i++) {
                all &= rows[sheet][i] == d.trail.get(i)[maid];
            }
            bits += all ? 1 << v : 0;
        }
        return bits;
    }

    int film(int sheet, int maid, int n) {
        if (!in(sheet, 0, 3) || maid != -1 && !isMaid(maid) || !in(n, 0, 40)) {
            return BAD;
        }
        Day d = run(house, n, -1);
        sorts[sheet] = 0;
        rows[sheet] = new int[n];
        for (int i = 0; i < n; i++) {
            rows[sheet][i] = maid == -1 ? house.master(i) : d.trail.get(i)[maid];
        }
        return n;
    }

    House drawnBy(int seed) {
        House h = house.copied();
        int z = seed;
        for (int[] stay : h.round) {
            z = z * 1103515245 + 12345;
            stay[1] = (z >>> 9) % 50 + 1;
        }
        return h;
    }

    int drawn(int seed) {
        return dear(drawnBy(seed), -1);
    }

    long chance(int seed, int n, int part) {
        if (!in(n, 1, 20) || !in(part, 0, 1)) {
            return -4611686018427387904L;
        }
        int above = 0;
        for (int k = 0; k < n; k++) {
            above += sum(run(drawnBy(seed + k), 100, -1).seen) == 0 ? 1 : 0;
        }
        int below = n;
        for (int d = 2; d <= below; d++) {
            while (above % d == 0 && below % d == 0) {
                above /= d;
                below /= d;
            }
        }
        return part == 0 ? above : below;
    }

    int image() {
        kept = house.copied();
        return kept.maids.size();
    }

    int back() {
        if (kept == null) {
            return STATE;
        }
        house = kept.copied();
        return house.maids.size();
    }

    int count(int what) {
        int[] all = {house.maids.size(), house.round.size(), house.stairs, texts.size(), tape.length(), house.rule, sum(house.work)};
        return in(what, 0, 6) ? all[what] : BAD;
    }

    int sheet(int sheet, int sort, int n) {
        if (!in(sheet, 0, 3) || !in(sort, -1, 2) || sort >= 0 && n > 40) {
            return BAD;
        }
        if (sort >= 0 && n < 0) {
            return -14;
        }
        sorts[sheet] = sort;
        rows[sheet] = sort < 0 ? null : new int[n];
        return 1;
    }

    int cell(int sheet, int i, int v) {
        if (!in(sheet, 0, 3)) {
            return BAD;
        }
        if (sorts[sheet] < 0) {
            return -11;
        }
        if (!in(i, 0, rows[sheet].length - 1)) {
            return -12;
        }
        int[] shape = SHAPES[sorts[sheet]];
        long size = 1L + shape[1] - shape[0];
        rows[sheet][i] = (int) (Math.floorMod((long) v - shape[0], size) + shape[0]);
        return 1;
    }

    int copy(int sheet, int i, int other, int j, int n) {
        if (!in(sheet, 0, 3) || !in(other, 0, 3)) {
            return BAD;
        }
        if (sorts[sheet] < 0 || sorts[other] < 0) {
            return -11;
        }
        if (sorts[sheet] != sorts[other]) {
            return -13;
        }
        if (i < 0 || j < 0 || n < 0 || (long) i + n > rows[sheet].length || (long) j + n > rows[other].length) {
            return -12;
        }
        int[] were = rows[sheet].clone();
        for (int k = 0; k < n; k++) {
            rows[other][j + k] = were[i + k];
        }
        return n;
    }

    int maids(int sheet, int sort, int from, int n) {
        if (!in(sheet, 0, 3) || !in(sort, 0, 2) || !in(n, 0, 4)) {
            return BAD;
        }
        if (sorts[sheet] >= 0 && sorts[sheet] != sort) {
            return -13;
        }
        if (sorts[sheet] < 0) {
            return -11;
        }
        int came = 0;
        for (int k = 0; k < n; k++) {
            long i = from + 3L * k;
            if (i < 0 || i + 2 >= rows[sheet].length) {
                return -12;
            }
            int[] r = rows[sheet];
            came += maid(r[(int) i], r[(int) i + 1], r[(int) i + 2]) >= 0 ? 1 : 0;
        }
        return came;
    }

    int taken(int maid, int k) {
        if (!in(k, 0, 5)) {
            return BAD;
        }
        if (!isMaid(maid)) {
            return -11;
        }
        return KINDS[k].getClass().isInstance(KINDS[house.maids.get(maid).kind]) ? house.maids.get(maid).number : -13;
    }
}
