/**
 * Never seen on the stairs: a house, the master's round through it, the maids who must not be seen, and
 * their mornings. The words in the comments that stand in capitals are those of ../shared/DOC.md.
 */
public final class NeverSeen {
    public static final int NONE = -1, BAD = -2, STATE = -3, FULL = -4;
    public static final long NO = -4611686018427387904L;

    private static final int NOTHING = -11, OUTSIDE = -12, UNLIKE = -13, NEGATIVE = -14;
    private static final int ROOMS = 8, STAYS = 8, MAIDS = 4, LISTED = 5, TEXTS = 6, SHEETS = 4;
    private static final int MINUTES = 100, TOLD_MINUTES = 40, SEEDS = 20, TAPE = 160, PARTS = 3, SORTS = 3;
    private static final int LEFT_STAIRS = 1, RIGHT_STAIRS = 2, BOTH_STAIRS = 3, NO_WAY = 8;
    private static final int KINDS = 6, NUMBERS = 10;
    private static final int MAID = 0, QUICK = 1, QUIET = 2, BOLD = 3, SLOW = 4, NEW = 5;
    /** The KIND that each KIND is under. */
    private static final int[] UNDER = {-1, 0, 0, 1, 2, 0};
    /** The least and the most that each thing of set() can be. */
    private static final int[] LEAST = {0, 0, 0, 1, 0, 0};
    private static final int[] MOST = {3, 99, 7, 50, 9, 7};

    private static final String FIRST_RULE = "steps 1 ; does 1 + maids ; costs 1 ;";
    /** NAMES and KEYS, each with a blank behind it; the place of one among them is its token. */
    private static final String WORDS = "minute room left number beside maids steps does costs or and not ";
    private static final int NAMES = 6, STEPS = 6, OR = 9, AND = 10, NOT = 11;
    private static final int NUMBER = 12, END = 13, WRONG = 14;
    private static final int DIGITS = 4, OPEN = 5;
    /** The parts of a TEXT. */
    private static final int TELLS_STEPS = 0, TELLS_DOES = 1, TELLS_COSTS = 2;
    /** In code a number from 0 on is itself, a NAME -1 less its token, any other token 0 less it. */
    private static final int NEGATE = -12;

    private final House house = new House();
    private final House kept = new House();
    /** A copy of the house on which things are tried, so that the true one never changes by a question. */
    private final House would = new House();
    private boolean imaged = false;
    private final Reader reader = new Reader();
    private final Wording[] texts = new Wording[TEXTS];
    private int textCount = 1;
    private final Day day = new Day(house, texts);
    private final Sheet[] sheets = new Sheet[SHEETS];
    private final int[] order = new int[LISTED];

    public NeverSeen() {
        for (int i = 0; i < TEXTS; i++) {
            texts[i] = new Wording();
        }
        for (int i = 0; i < SHEETS; i++) {
            sheets[i] = new Sheet();
        }
        for (int i = 0; i < FIRST_RULE.length(); i++) {
            reader.add(FIRST_RULE.charAt(i));
        }
        reader.read(texts[0]);
    }

    // ---- the house, maids

    public int set(int what, int of, int v) {
        if (!within(what, LEAST.length) || v < LEAST[what] || v > MOST[what]) {
            return BAD;
        }
        int was = told(of, what);
        if (was != BAD) {
            house.put(what, of, v);
        }
        return was;
    }

    public int stay(int room, int minutes) {
        if (!within(room, ROOMS) || minutes < LEAST[3] || minutes > MOST[3]) {
            return BAD;
        }
        if (house.stays >= STAYS) {
            return FULL;
        }
        house.stayRoom[house.stays] = room;
        house.stayMinutes[house.stays] = minutes;
        house.stays++;
        return house.stays;
    }

    public int maid(int kind, int number, int room) {
        if (!within(kind, KINDS) || !within(number, NUMBERS) || !within(room, ROOMS)) {
            return BAD;
        }
        if (house.maids >= MAIDS) {
            return FULL;
        }
        house.maid[house.maids].arrive(kind, number, room);
        house.maids++;
        return house.maids - 1;
    }

    public int list(int maid, int room) {
        if (!within(maid, house.maids) || !within(room, ROOMS)) {
            return BAD;
        }
        Maid she = house.maid[maid];
        if (she.listed >= LISTED) {
            return FULL;
        }
        she.list[she.listed] = room;
        she.listed++;
        return she.listed;
    }

    public int clear(int maid) {
        if (!within(maid, house.maids)) {
            return BAD;
        }
        int had = house.maid[maid].listed;
        house.maid[maid].listed = 0;
        return had;
    }

    public int told(int of, int what) {
        switch (what) {
            case 0:
                return house.stairs;
            case 1:
                return within(of, ROOMS) ? house.work[of] : BAD;
            case 2:
                return within(of, house.stays) ? house.stayRoom[of] : BAD;
            case 3:
                return within(of, house.stays) ? house.stayMinutes[of] : BAD;
            default:
                return within(of, house.maids) ? toldOfMaid(house.maid[of], what) : BAD;
        }
    }

    private static int toldOfMaid(Maid she, int what) {
        switch (what) {
            case 4:
                return she.number;
            case 5:
                return she.begins;
            case 6:
                return she.kind;
            case 7:
                return she.listed;
            default:
                return within(what - 10, LISTED) ? she.roomListed(what - 10) : BAD;
        }
    }

    public int way(int room, int to, int what) {
        if (!within(room, ROOMS) || !within(to, ROOMS) || !within(what, 2)) {
            return BAD;
        }
        return what == 0 ? Ways.far(house.stairs, room, to) : Ways.nextRoom(house.stairs, room, to);
    }

    // ---- texts

    public int feed(int letter) {
        if (!within(letter, 256)) {
            return BAD;
        }
        return reader.add(letter) ? reader.size : FULL;
    }

    public int text() {
        if (textCount >= TEXTS) {
            return FULL;
        }
        int fault = reader.read(texts[textCount]);
        if (fault != NONE) {
            return -100 - fault;
        }
        textCount++;
        return textCount - 1;
    }

    public int force(int text) {
        if (!within(text, textCount)) {
            return BAD;
        }
        int was = house.rule;
        house.rule = text;
        return was;
    }

    // ---- the master

    public int master(int minute) {
        return within(minute, MINUTES) ? house.masterIn(minute) : BAD;
    }

    public int free(int room, int minute) {
        if (!within(room, ROOMS) || !within(minute, MINUTES)) {
            return BAD;
        }
        int end = minute;
        while (end < MINUTES && house.masterIn(end) != room) {
            end++;
        }
        return end - minute;
    }

    public int longest(int room, int what) {
        if (!within(room, ROOMS) || !within(what, 2)) {
            return BAD;
        }
        return longestFree(room, what);
    }

    public int never(int k) {
        if (k < 0 || k > MINUTES) {
            return BAD;
        }
        int rooms = 0;
        for (int room = 0; room < ROOMS; room++) {
            if (longestFree(room, 0) < k) {
                rooms |= 1 << room;
            }
        }
        return rooms;
    }

    /** LONGEST of a room (what 0), or its first minute (1). */
    private int longestFree(int room, int what) {
        int most = 0;
        int first = NONE;
        int run = 0;
        for (int minute = 0; minute < MINUTES; minute++) {
            run = house.masterIn(minute) == room ? 0 : run + 1;
            if (run > most) {
                most = run;
                first = minute - run + 1;
            }
        }
        return what == 0 ? most : first;
    }

    // ---- mornings

    public int morning(int n, int what) {
        if (n < 0 || n > MINUTES || !isAskedOfMorning(what)) {
            return BAD;
        }
        day.run(house, n);
        if (what >= 50) {
            return day.work[what - 50];
        }
        if (what >= 10) {
            return day.ofMaid(what % 10, what / 10);
        }
        switch (what) {
            case 0:
                return day.workLeft();
            case 1:
                return day.shillings;
            case 2:
                return day.ready;
            default:
                return day.dear();
        }
    }

    private boolean isAskedOfMorning(int what) {
        if (what >= 10 && what < 50) {
            return what % 10 < house.maids;
        }
        return within(what, 4) || within(what - 50, ROOMS);
    }

    // ---- what would be best

    public int best(int maid, int what) {
        if (!within(maid, house.maids) || !within(what, 2)) {
            return BAD;
        }
        int listed = house.maid[maid].listed;
        int orders = firstOrder(listed);
        int least = 0;
        int rooms = 0;
        would.become(house);
        for (int k = 0; k < orders; k++) {
            int digits = 0;
            for (int i = 0; i < listed; i++) {
                int room = house.maid[maid].list[order[i]];
                would.maid[maid].list[i] = room;
                digits = digits * 10 + room + 1;
            }
            day.run(would, MINUTES);
            int dear = day.dear();
            if (k == 0 || dear < least) {
                least = dear;
                rooms = digits;
            }
            nextOrder(listed);
        }
        return what == 0 ? rooms : least;
    }

    /** The first order of n places; how many orders there are. */
    private int firstOrder(int n) {
        int orders = 1;
        for (int i = 0; i < n; i++) {
            order[i] = i;
            orders *= i + 1;
        }
        return orders;
    }

    /** The order of n places behind this one; none is behind the last, which stays. */
    private void nextOrder(int n) {
        int i = n - 2;
        while (i >= 0 && order[i] > order[i + 1]) {
            i--;
        }
        if (i < 0) {
            return;
        }
        int j = n - 1;
        while (j > i && order[j] < order[i]) {
            j--;
        }
        swapPlaces(i, j);
        for (int low = i + 1, high = n - 1; low < high; low++, high--) {
            swapPlaces(low, high);
        }
    }

    private void swapPlaces(int i, int j) {
        int was = order[i];
        order[i] = order[j];
        order[j] = was;
    }

    public int begin(int maid, int what) {
        if (!within(maid, house.maids) || !within(what, 2)) {
            return BAD;
        }
        int least = 0;
        int from = NONE;
        would.become(house);
        for (int room = 0; room < ROOMS; room++) {
            would.maid[maid].begins = room;
            day.run(would, MINUTES);
            int dear = day.dear();
            if (from == NONE || dear < least) {
                least = dear;
                from = room;
            }
        }
        return what == 0 ? from : least;
    }

    public int home(int what) {
        if (!within(what, 2)) {
            return BAD;
        }
        day.run(house, MINUTES);
        int least = day.dear();
        int atHome = NONE;
        for (int maid = 0; maid < house.maids; maid++) {
            would.become(house);
            would.leaveOut(maid);
            day.run(would, MINUTES);
            int dear = day.dear();
            if (dear < least) {
                least = dear;
                atHome = maid;
            }
        }
        return what == 0 ? atHome : least;
    }

    public int stairs() {
        would.become(house);
        would.stairs = 0;
        day.run(would, MINUTES);
        int without = day.dear();
        would.stairs = BOTH_STAIRS;
        day.run(would, MINUTES);
        return without - day.dear();
    }

    // ---- mornings that were told

    public int from(int sheet, int what) {
        if (!within(sheet, SHEETS) || !within(what, 2)) {
            return BAD;
        }
        Sheet rooms = sheets[sheet];
        if (rooms.isMissing()) {
            return NOTHING;
        }
        int many = 0;
        int least = NONE;
        for (int ahead = 0; ahead < MINUTES; ahead++) {
            if (isTold(rooms, ahead)) {
                many++;
                if (least == NONE) {
                    least = ahead;
                }
            }
        }
        return what == 0 ? many : least;
    }

    /** Whether the master, so many minutes ahead on his round, would have been in the rooms that a sheet tells. */
    private boolean isTold(Sheet rooms, int ahead) {
        for (int i = 0; i < rooms.size; i++) {
            if (house.masterIn(ahead + i) != rooms.items[i]) {
                return false;
            }
        }
        return true;
    }

    public int door(int sheet, int maid, int what) {
        if (!within(sheet, SHEETS) || !within(maid, house.maids) || !within(what, 5)) {
            return BAD;
        }
        Sheet rooms = sheets[sheet];
        if (rooms.isMissing()) {
            return NOTHING;
        }
        would.become(house);
        Maid she = would.maid[maid];
        int choices = doorChoices(what);
        int fitting = 0;
        for (int k = 0; k < choices; k++) {
            if (what == 1) {
                she.kind = k;
            } else if (what == 2) {
                she.number = k;
            } else if (what == 3) {
                she.begins = k;
            } else if (what == 4) {
                would.rule = k;
            }
            if (isSeenFromDoor(rooms, maid)) {
                fitting |= 1 << k;
            }
        }
        return fitting;
    }

    private int doorChoices(int what) {
        switch (what) {
            case 1:
                return KINDS;
            case 2:
                return NUMBERS;
            case 3:
                return ROOMS;
            case 4:
                return textCount;
            default:
                return 1;
        }
    }

    /** Whether a maid of the house as it would be is in the rooms that a sheet tells. */
    private boolean isSeenFromDoor(Sheet rooms, int maid) {
        day.start(would);
        for (int minute = 0; minute < rooms.size; minute++) {
            day.pass(minute);
            if (day.room[maid] != rooms.items[minute]) {
                return false;
            }
        }
        return true;
    }

    public int film(int sheet, int maid, int n) {
        if (!within(sheet, SHEETS) || maid < NONE || maid >= house.maids || n < 0 || n > TOLD_MINUTES) {
            return BAD;
        }
        Sheet rooms = sheets[sheet];
        rooms.become(0, n);
        day.start(house);
        for (int minute = 0; minute < n; minute++) {
            day.pass(minute);
            rooms.put(minute, maid == NONE ? house.masterIn(minute) : day.room[maid]);
        }
        return n;
    }

    public int drawn(int seed) {
        would.become(house);
        would.draw(seed);
        day.run(would, MINUTES);
        return day.dear();
    }

    public long chance(int seed, int n, int part) {
        if (n < 1 || n > SEEDS || !within(part, 2)) {
            return NO;
        }
        int unseen = 0;
        would.become(house);
        for (int k = 0; k < n; k++) {
            would.draw(seed + k);
            day.run(would, MINUTES);
            if (!day.isAnySeen()) {
                unseen++;
            }
        }
        return inLowestTerms(unseen, n, part);
    }

    /** What stands above (part 0) or below (1) the line; below is so small that each divisor can be tried. */
    private static int inLowestTerms(int above, int below, int part) {
        for (int d = below; d > 1; d--) {
            if (above % d == 0 && below % d == 0) {
                return (part == 0 ? above : below) / d;
            }
        }
        return part == 0 ? above : below;
    }

    public int image() {
        kept.become(house);
        imaged = true;
        return kept.maids;
    }

    public int back() {
        if (!imaged) {
            return STATE;
        }
        house.become(kept);
        return house.maids;
    }

    public int count(int what) {
        switch (what) {
            case 0:
                return house.maids;
            case 1:
                return house.stays;
            case 2:
                return house.stairs;
            case 3:
                return textCount;
            case 4:
                return reader.size;
            case 5:
                return house.rule;
            case 6:
                return sum(house.work);
            default:
                return BAD;
        }
    }

    // ---- the host

    public int sheet(int sheet, int sort, int n) {
        if (!within(sheet, SHEETS) || sort < NONE || sort >= SORTS) {
            return BAD;
        }
        if (sort == NONE) {
            sheets[sheet].become(NONE, 0);
            return 1;
        }
        if (n > TOLD_MINUTES) {
            return BAD;
        }
        if (n < 0) {
            return NEGATIVE;
        }
        sheets[sheet].become(sort, n);
        return 1;
    }

    public int cell(int sheet, int i, int v) {
        if (!within(sheet, SHEETS)) {
            return BAD;
        }
        Sheet row = sheets[sheet];
        if (row.isMissing()) {
            return NOTHING;
        }
        if (!within(i, row.size)) {
            return OUTSIDE;
        }
        row.put(i, v);
        return 1;
    }

    public int copy(int sheet, int i, int other, int j, int n) {
        if (!within(sheet, SHEETS) || !within(other, SHEETS)) {
            return BAD;
        }
        Sheet source = sheets[sheet];
        Sheet target = sheets[other];
        if (source.isMissing() || target.isMissing()) {
            return NOTHING;
        }
        if (source.sort != target.sort) {
            return UNLIKE;
        }
        if (!source.has(i, n) || !target.has(j, n)) {
            return OUTSIDE;
        }
        System.arraycopy(source.items, i, target.items, j, n);
        return n;
    }

    public int maids(int sheet, int sort, int from, int n) {
        if (!within(sheet, SHEETS) || !within(sort, SORTS) || n < 0 || n > MAIDS) {
            return BAD;
        }
        Sheet row = sheets[sheet];
        if (row.isMissing()) {
            return NOTHING;
        }
        if (row.sort != sort) {
            return UNLIKE;
        }
        int came = 0;
        for (int k = 0; k < n; k++) {
            if (!row.has(from, 3 * k + 3)) {
                return OUTSIDE;
            }
            int i = from + 3 * k;
            if (maid(row.items[i], row.items[i + 1], row.items[i + 2]) >= 0) {
                came++;
            }
        }
        return came;
    }

    public int taken(int maid, int k) {
        if (!within(k, KINDS)) {
            return BAD;
        }
        if (!within(maid, house.maids)) {
            return NOTHING;
        }
        return house.maid[maid].isOfKind(k) ? house.maid[maid].number : UNLIKE;
    }

    // ---- small helps

    private static boolean within(int i, int n) {
        return i >= 0 && i < n;
    }

    private static int sum(int[] row) {
        int all = 0;
        for (int i = 0; i < row.length; i++) {
            all += row[i];
        }
        return all;
    }

    /** All that AN IMAGE keeps. Its rows are made once; one house becomes as another by copying. */
    private static final class House {
        int stairs = BOTH_STAIRS;
        int stays = 0;
        int maids = 0;
        int rule = 0;
        final int[] stayRoom = new int[STAYS];
        final int[] stayMinutes = new int[STAYS];
        final int[] work = new int[ROOMS];
        final Maid[] maid = new Maid[MAIDS];

        House() {
            for (int i = 0; i < ROOMS; i++) {
                work[i] = 9;
            }
            for (int i = 0; i < MAIDS; i++) {
                maid[i] = new Maid();
            }
        }

        void become(House other) {
            stairs = other.stairs;
            stays = other.stays;
            maids = other.maids;
            rule = other.rule;
            System.arraycopy(other.stayRoom, 0, stayRoom, 0, STAYS);
            System.arraycopy(other.stayMinutes, 0, stayMinutes, 0, STAYS);
            System.arraycopy(other.work, 0, work, 0, ROOMS);
            for (int i = 0; i < MAIDS; i++) {
                maid[i].become(other.maid[i]);
            }
        }

        /** What of set() becomes v; that there is such a thing has been looked at. */
        void put(int what, int of, int v) {
            if (what == 0) {
                stairs = v;
            } else if (what == 1 && within(of, ROOMS)) {
                work[of] = v;
            } else if (what == 2 && within(of, STAYS)) {
                stayRoom[of] = v;
            } else if (what == 3 && within(of, STAYS)) {
                stayMinutes[of] = v;
            } else if (what == 4 && within(of, MAIDS)) {
                maid[of].number = v;
            } else if (what == 5 && within(of, MAIDS)) {
                maid[of].begins = v;
            }
        }

        /** Those behind her come one number ahead, so that the order in which the maids do things stays. */
        void leaveOut(int number) {
            for (int i = number; i < maids - 1; i++) {
                maid[i].become(maid[i + 1]);
            }
            maids--;
        }

        int masterIn(int minute) {
            int round = 0;
            for (int i = 0; i < stays; i++) {
                round += stayMinutes[i];
            }
            if (round <= 0) {
                return NONE;
            }
            int left = minute % round;
            for (int i = 0; i < stays; i++) {
                if (left < stayMinutes[i]) {
                    return stayRoom[i];
                }
                left -= stayMinutes[i];
            }
            return NONE;
        }

        void draw(int seed) {
            int z = seed;
            for (int i = 0; i < stays; i++) {
                z = z * 1103515245 + 12345;
                stayMinutes[i] = (z >>> 9) % 50 + 1;
            }
        }
    }

    private static final class Maid {
        int kind = MAID;
        int number = 0;
        int begins = 0;
        int listed = 0;
        final int[] list = new int[LISTED];

        void arrive(int itsKind, int itsNumber, int room) {
            kind = itsKind;
            number = itsNumber;
            begins = room;
            listed = 0;
        }

        void become(Maid other) {
            kind = other.kind;
            number = other.number;
            begins = other.begins;
            listed = other.listed;
            System.arraycopy(other.list, 0, list, 0, LISTED);
        }

        int roomListed(int place) {
            return within(place, listed) ? list[place] : NONE;
        }

        boolean isOfKind(int k) {
            int each = kind;
            for (int i = 0; i < KINDS && within(each, KINDS); i++) {
                if (each == k) {
                    return true;
                }
                each = UNDER[each];
            }
            return false;
        }

        int takes(int steps) {
            switch (kind) {
                case QUICK:
                case BOLD:
                    return Math.max(1, steps - number / 3);
                case QUIET:
                    return steps + 1;
                case SLOW:
                    return 2 * (steps + 1);
                case NEW:
                    return 2 * steps;
                default:
                    return steps;
            }
        }

        int works(int does) {
            switch (kind) {
                case QUICK:
                case BOLD:
                    return does + 1;
                case SLOW:
                    return does + number;
                case NEW:
                    return Math.max(1, does / 2);
                default:
                    return does;
            }
        }

        boolean dares(int minute) {
            return kind == BOLD && minute % (number + 2) == 0;
        }
    }

    /** FAR and NEXT. A floor is a row of four, so that ways can be counted without walking them. */
    private static final class Ways {
        private static final int ROW = 4;
        private final int[] next = new int[ROOMS * ROOMS];
        private int laidFor = NONE;

        static int far(int stairs, int room, int to) {
            int across = room % ROW + to % ROW;
            if (room / ROW == to / ROW) {
                return Math.abs(room % ROW - to % ROW);
            }
            int least = NO_WAY;
            if ((stairs & LEFT_STAIRS) != 0) {
                least = Math.min(least, across + 1);
            }
            if ((stairs & RIGHT_STAIRS) != 0) {
                least = Math.min(least, 2 * (ROW - 1) - across + 1);
            }
            return least;
        }

        static int nextRoom(int stairs, int room, int to) {
            int next = NONE;
            int least = NO_WAY;
            for (int beside = 0; beside < ROOMS && room != to; beside++) {
                if (far(stairs, room, beside) == 1 && far(stairs, beside, to) < least) {
                    least = far(stairs, beside, to);
                    next = beside;
                }
            }
            return next;
        }

        /** Mornings ask for NEXT so often that all of them are kept till the stairs change. */
        void lay(int stairs) {
            if (laidFor == stairs) {
                return;
            }
            for (int i = 0; i < ROOMS * ROOMS; i++) {
                next[i] = nextRoom(stairs, i / ROOMS, i % ROOMS);
            }
            laidFor = stairs;
        }

        int nextLaid(int room, int to) {
            return within(room, ROOMS) && within(to, ROOMS) ? next[room * ROOMS + to] : NONE;
        }
    }

    /** A MORNING: where all are, minute by minute. */
    private static final class Day {
        private House house;
        private final Wording[] texts;
        private final Ways ways = new Ways();
        private final int[] names = new int[NAMES];
        private final int[] stack = new int[TAPE];
        final int[] room = new int[MAIDS];
        private final int[] to = new int[MAIDS];
        private final int[] onWay = new int[MAIDS];
        private final int[] place = new int[MAIDS];
        private final int[] seen = new int[MAIDS];
        private final int[] waited = new int[MAIDS];
        final int[] work = new int[ROOMS];
        private int asked = 0;
        int shillings = 0;
        int ready = NONE;

        Day(House firstHouse, Wording[] allTexts) {
            house = firstHouse;
            texts = allTexts;
        }

        void run(House itsHouse, int n) {
            start(itsHouse);
            for (int minute = 0; minute < n; minute++) {
                pass(minute);
            }
        }

        void start(House itsHouse) {
            house = itsHouse;
            ways.lay(house.stairs);
            System.arraycopy(house.work, 0, work, 0, ROOMS);
            asked = 0;
            shillings = 0;
            ready = NONE;
            for (int k = 0; k < house.maids; k++) {
                Maid maid = house.maid[k];
                room[k] = maid.begins;
                onWay[k] = 0;
                place[k] = 0;
                seen[k] = 0;
                waited[k] = 0;
                for (int i = 0; i < maid.listed; i++) {
                    asked |= 1 << maid.list[i];
                }
            }
        }

        void pass(int minute) {
            int master = house.masterIn(minute);
            for (int k = 0; k < house.maids; k++) {
                turn(k, minute, master);
            }
            if (ready == NONE && isAllDone()) {
                ready = minute;
            }
        }

        private void turn(int k, int minute, int master) {
            Maid maid = house.maid[k];
            int here = room[k];
            int aim = maid.roomListed(place[k]);
            if (onWay[k] > 0) {
                onWay[k]--;
                if (onWay[k] == 0) {
                    room[k] = to[k];
                }
            } else if (here == master) {
                seen[k]++;
                shillings += tells(TELLS_COSTS, k, minute, 0);
            } else if (here == aim) {
                work[here] = Math.max(0, work[here] - maid.works(tells(TELLS_DOES, k, minute, 0)));
                if (work[here] == 0) {
                    place[k]++;
                }
            } else {
                int next = ways.nextLaid(here, aim);
                if (next != NONE && (next != master || maid.dares(minute))) {
                    onWay[k] = maid.takes(tells(TELLS_STEPS, k, minute, next));
                    to[k] = next;
                } else {
                    waited[k]++;
                }
            }
        }

        /** What THE RULE tells of a maid, within its bounds. */
        private int tells(int part, int k, int minute, int beside) {
            names[0] = minute;
            names[1] = room[k];
            names[2] = work[room[k]];
            names[3] = house.maid[k].number;
            names[4] = beside;
            names[5] = othersWith(k);
            int told = texts[house.rule].value(part, names, stack);
            return part == TELLS_COSTS ? Math.max(0, Math.min(99, told)) : Math.max(1, Math.min(9, told));
        }

        private int othersWith(int k) {
            int others = 0;
            for (int i = 0; i < house.maids; i++) {
                if (i != k && onWay[i] == 0 && room[i] == room[k]) {
                    others++;
                }
            }
            return others;
        }

        private boolean isAllDone() {
            for (int i = 0; i < ROOMS; i++) {
                if ((asked >> i & 1) != 0 && work[i] > 0) {
                    return false;
                }
            }
            return true;
        }

        int workLeft() {
            return sum(work);
        }

        int dear() {
            return sum(work) + shillings;
        }

        boolean isAnySeen() {
            for (int k = 0; k < house.maids; k++) {
                if (seen[k] > 0) {
                    return true;
                }
            }
            return false;
        }

        /** Of a maid: her room (1), in how many minutes she was seen (2), waited (3), her aim (4). */
        int ofMaid(int k, int what) {
            if (!within(k, house.maids)) {
                return BAD;
            }
            switch (what) {
                case 1:
                    return room[k];
                case 2:
                    return seen[k];
                case 3:
                    return waited[k];
                default:
                    return house.maid[k].roomListed(place[k]);
            }
        }
    }

    /** A row of numbers; of sort NONE it is missing. */
    private static final class Sheet {
        int sort = NONE;
        int size = 0;
        final int[] items = new int[TOLD_MINUTES];

        boolean isMissing() {
            return sort == NONE;
        }

        void become(int newSort, int newSize) {
            sort = newSort;
            size = newSize;
            for (int i = 0; i < TOLD_MINUTES; i++) {
                items[i] = 0;
            }
        }

        /** An item keeps what a Java array of the sort would keep of v, its sign too. */
        void put(int i, int v) {
            if (!within(i, size)) {
                return;
            }
            if (sort == 0) {
                items[i] = (byte) v;
            } else if (sort == 1) {
                items[i] = (short) v;
            } else {
                items[i] = v;
            }
        }

        /** Whether n items from item i on all stand in the row. */
        boolean has(int i, int n) {
            return i >= 0 && n >= 0 && n <= size && i <= size - n;
        }
    }

    /** A TEXT that has been read: code for a stack, what is worked on ahead of the sign. */
    private static final class Wording {
        private final int[] code = new int[TAPE];
        private final int[] ends = new int[PARTS];

        void become(int[] newCode, int[] newEnds) {
            System.arraycopy(newCode, 0, code, 0, TAPE);
            System.arraycopy(newEnds, 0, ends, 0, PARTS);
        }

        int value(int part, int[] names, int[] stack) {
            int high = 0;
            for (int i = part == 0 ? 0 : ends[part - 1]; i < ends[part]; i++) {
                int c = code[i];
                if (c >= -NAMES && high < stack.length) {
                    stack[high] = c >= 0 ? c : names[-1 - c];
                    high++;
                } else if (c == NEGATE && high >= 1) {
                    stack[high - 1] = -stack[high - 1];
                } else if (c == -NOT && high >= 1) {
                    stack[high - 1] = stack[high - 1] == 0 ? 1 : 0;
                } else if (high >= 2) {
                    high--;
                    stack[high - 1] = joined(-c, stack[high - 1], stack[high]);
                }
            }
            return stack[0];
        }

        private static int joined(int sign, int a, int b) {
            switch (sign) {
                case '+':
                    return a + b;
                case '-':
                    return a - b;
                case '*':
                    return a * b;
                case '<':
                    return a < b ? 1 : 0;
                case '=':
                    return a == b ? 1 : 0;
                case AND:
                    return a != 0 && b != 0 ? 1 : 0;
                default:
                    return a != 0 || b != 0 ? 1 : 0;
            }
        }
    }

    /**
     * THE TAPE, and the reading of a TEXT from it. By a FAULT the token is WRONG from there on: nothing
     * takes such a token, so that all reading ends.
     */
    private static final class Reader {
        private final int[] tape = new int[TAPE];
        int size = 0;
        private int at = 0;
        private int behind = 0;
        private int token = END;
        private int number = 0;
        private int fault = NONE;
        private final int[] code = new int[TAPE];
        private final int[] ends = new int[PARTS];
        private int written = 0;

        boolean add(int letter) {
            if (size >= TAPE) {
                return false;
            }
            tape[size] = letter;
            size++;
            return true;
        }

        /** Empties THE TAPE into a TEXT: NONE, or the place of its FAULT (the TEXT is as it was). */
        int read(Wording into) {
            written = 0;
            behind = 0;
            fault = NONE;
            advance();
            for (int part = 0; part < PARTS; part++) {
                expect(STEPS + part);
                readEither(0);
                expect(';');
                ends[part] = written;
            }
            expect(END);
            if (fault == NONE) {
                into.become(code, ends);
            }
            size = 0;
            return fault;
        }

        private void readEither(int open) {
            readBoth(open);
            for (int i = 0; i < TAPE && token == OR; i++) {
                advance();
                readBoth(open);
                write(-OR);
            }
        }

        private void readBoth(int open) {
            readNot(open);
            for (int i = 0; i < TAPE && token == AND; i++) {
                advance();
                readNot(open);
                write(-AND);
            }
        }

        private void readNot(int open) {
            if (token == NOT && open < OPEN) {
                advance();
                readNot(open + 1);
                write(-NOT);
                return;
            }
            readSum(open);
            if (token == '<' || token == '=') {
                int sign = token;
                advance();
                readSum(open);
                write(-sign);
            }
        }

        private void readSum(int open) {
            readTerm(open);
            for (int i = 0; i < TAPE && (token == '+' || token == '-'); i++) {
                int sign = token;
                advance();
                readTerm(open);
                write(-sign);
            }
        }

        private void readTerm(int open) {
            readOne(open);
            for (int i = 0; i < TAPE && token == '*'; i++) {
                advance();
                readOne(open);
                write(-'*');
            }
        }

        private void readOne(int open) {
            if (token == NUMBER) {
                write(number);
                advance();
            } else if (within(token, NAMES)) {
                write(-1 - token);
                advance();
            } else if (token == '-' && open < OPEN) {
                advance();
                readOne(open + 1);
                write(NEGATE);
            } else if (token == '(' && open < OPEN) {
                advance();
                readEither(open + 1);
                expect(')');
            } else {
                refuse();
            }
        }

        private void expect(int due) {
            if (token != due) {
                refuse();
            } else if (due != END) {
                advance();
            }
        }

        private void refuse() {
            if (fault == NONE) {
                fault = at;
            }
            token = WRONG;
        }

        /** A token writes one item at most, so that there is always room; it is looked at all the same. */
        private void write(int item) {
            if (written < TAPE) {
                code[written] = item;
                written++;
            }
        }

        private void advance() {
            while (behind < size && (tape[behind] == ' ' || tape[behind] == '\n')) {
                behind++;
            }
            at = behind;
            if (at >= size) {
                token = END;
            } else if (isLetter(tape[at])) {
                takeWord();
            } else if (isDigit(tape[at])) {
                takeNumber();
            } else if (isSign(tape[at])) {
                token = tape[at];
                behind++;
            } else {
                refuse();
            }
        }

        private void takeWord() {
            while (behind < size && isLetter(tape[behind])) {
                behind++;
            }
            token = wordOnTape();
            if (token == WRONG) {
                refuse();
            }
        }

        private void takeNumber() {
            number = 0;
            while (behind < size && isDigit(tape[behind])) {
                number = number * 10 + tape[behind] - '0';
                behind++;
            }
            token = NUMBER;
            if (behind - at > DIGITS) {
                refuse();
            }
        }

        /** The token of the word from at to behind: its number among WORDS; WRONG. */
        private int wordOnTape() {
            int word = 0;
            int start = 0;
            for (int i = 0; i < WORDS.length(); i++) {
                if (WORDS.charAt(i) == ' ') {
                    if (i - start == behind - at && isOnTape(start, i)) {
                        return word;
                    }
                    word++;
                    start = i + 1;
                }
            }
            return WRONG;
        }

        private boolean isOnTape(int start, int end) {
            for (int i = start; i < end; i++) {
                if (WORDS.charAt(i) != tape[at + i - start]) {
                    return false;
                }
            }
            return true;
        }

        private static boolean isLetter(int b) {
            return b >= 'a' && b <= 'z';
        }

        private static boolean isDigit(int b) {
            return b >= '0' && b <= '9';
        }

        private static boolean isSign(int b) {
            return b == '(' || b == ')' || b == ';' || b == '+' || b == '-' || b == '*' || b == '<' || b == '=';
        }
    }
}
