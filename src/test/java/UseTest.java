import java.lang.reflect.Field;
import java.lang.reflect.Modifier;
import java.util.ArrayList;
import java.util.IdentityHashMap;
import java.util.List;

/**
 * "An object is used for at most 512 calls after it has been made": till the last of them it answers as it did at
 * first; objects know nothing of one another; what one holds is little, and doesn't grow.
 */
public final class UseTest {
    private static final Due due = new Due("UseTest");
    private static final int CALLS = 512;
    /** All objects and arrays, all fields and elements of one run. */
    private static final int ROOM_OF_OBJECTS = 600_000, ROOM_OF_ELEMENTS = 7_300_000;
    private static final String LONG_RULE = "steps " + "(minute*room+left*number-maids=beside)+".repeat(2) + "1;does not minute<room and maids<left or 3;costs minute*minute-room;";

    public static void main(String[] args) throws Exception {
        theDearestCallsToTheLast();
        allCallsToTheLast();
        twoSideBySide();
        whatOneHolds();
        due.end();
    }

    /** Eight STAYS, four MAIDS with five ROOMS each: 32 calls. */
    private static NeverSeen fullHouse() {
        NeverSeen x = new NeverSeen();
        for (int i = 0; i < 8; i++) {
            x.stay(i * 3 % 8, i + 1);
        }
        for (int maid = 0; maid < 4; maid++) {
            x.maid(maid + 1, maid * 3, maid * 2);
            for (int i = 0; i < 5; i++) {
                x.list(maid, (maid * 2 + i * 3) % 8);
            }
        }
        return x;
    }

    private static NeverSeen fullHouseOfALongRule() {
        NeverSeen x = fullHouse();
        Due.feed(x, LONG_RULE);
        due.is("the long rule", x.text(), 1);
        x.force(1);
        return x;
    }

    private static void theDearestCallsToTheLast() {
        NeverSeen x = fullHouseOfALongRule();
        int had = 32 + LONG_RULE.length() + 2;
        int digits = x.best(3, 0);
        int dear = x.best(3, 1);
        due.is("a best list", digits > 10000 && dear > 0 ? 1 : 0, 1);
        int wrong = 0;
        for (int call = had + 2; call < CALLS; call++) {
            wrong += x.best(3, call % 2) == (call % 2 == 0 ? digits : dear) ? 0 : 1;
        }
        due.is("best(3, ..) answered otherwise", wrong, 0);
    }

    /** Rounds of 30 calls on two houses that are alike; one of them is new for each round. */
    private static void allCallsToTheLast() {
        NeverSeen x = fullHouse();
        x.image();
        x.sheet(1, 0, 12);
        int had = 34;
        int rounds = 0;
        while (had + 31 <= CALLS) {
            NeverSeen y = fullHouse();
            y.sheet(1, 0, 12);
            due.is("round " + rounds, asked(x), asked(y));
            x.back();
            had += 31;
            rounds++;
        }
        due.is("rounds", rounds, 15);
        while (had < CALLS - 1) {
            x.stay(9, 9);
            had++;
        }
        due.is("the last call", x.drawn(7), fullHouse().drawn(7));
    }

    /** 30 calls; some change the house, so that it is to be taken back behind them. */
    private static long asked(NeverSeen x) {
        long all = x.set(0, 0, 2) + 31L * x.set(1, 3, 50) + 37L * x.set(5, 2, 6);
        int[] answers = {
            x.clear(1), x.list(1, 4), x.list(1, 4), x.told(1, 11), x.way(0, 4, 0), x.feed('x'), x.text(), x.force(0), x.master(77), x.free(6, 3),
            x.longest(2, 1), x.never(30), x.morning(100, 3), x.morning(60, 33), x.best(1, 0), x.begin(2, 0), x.home(1), x.stairs(),
            x.film(1, 2, 12), x.from(1, 0), x.door(1, 2, 3), x.drawn(5), (int) x.chance(5, 3, 1), x.count(6), x.cell(1, 2, 1), x.copy(1, 0, 1, 1, 2), x.taken(3, 2),
        };
        for (int answer : answers) {
            all = all * 1_000_003 + answer;
        }
        return all;
    }

    /** Calls of one between those of the other change nothing of what either answers. */
    private static void twoSideBySide() {
        NeverSeen one = fullHouse();
        NeverSeen other = new NeverSeen();
        other.set(0, 0, 0);
        Due.feed(other, "steps 9;does 9;costs 9;");
        Due.feed(one, "steps 2;does ");
        other.text();
        other.force(1);
        Due.feed(one, "3;costs 4;");
        due.is("the tape of one", one.text(), 1);
        other.maid(0, 0, 0);
        other.stay(0, 5);
        one.image();
        due.is("no image of the other", other.back(), -3);
        other.sheet(0, 0, 1);
        due.is("no sheet of one", one.cell(0, 0, 0), -11);
        due.is("stairs of one", one.count(2), 3);
        due.is("rule of one", one.count(5), 0);
        due.is("rule of the other", other.count(5), 1);
        due.is("one's morning", one.morning(100, 3), fullHouse().morning(100, 3));
        due.is("the other's shillings", other.morning(1, 1), 9);
        due.is("one's best list", one.best(2, 0), fullHouse().best(2, 0));
        due.is("the other's best list", other.best(0, 0), 0);
    }

    /** Objects and arrays in row 0, their fields and elements in row 1, of all that an object of the program reaches. */
    private static int[] held(Object whole) throws Exception {
        IdentityHashMap<Object, Object> known = new IdentityHashMap<>();
        List<Object> next = new ArrayList<>(List.of(whole));
        int elements = 0;
        while (!next.isEmpty()) {
            Object one = next.remove(next.size() - 1);
            if (known.put(one, one) != null) {
                continue;
            }
            if (one instanceof int[]) {
                elements += ((int[]) one).length;
            } else if (one instanceof Object[]) {
                elements += ((Object[]) one).length;
                next.addAll(List.of((Object[]) one));
            } else {
                due.is("an object of " + one.getClass(), one.getClass().getName().startsWith("NeverSeen") ? 1 : 0, 1);
                for (Field f : one.getClass().getDeclaredFields()) {
                    if (!Modifier.isStatic(f.getModifiers())) {
                        elements++;
                        f.setAccessible(true);
                        if (!f.getType().isPrimitive()) {
                            next.add(f.get(one));
                        }
                    }
                }
            }
        }
        return new int[] {known.size(), elements};
    }

    /** A thousand of them would have room in one run. */
    private static void whatOneHolds() throws Exception {
        NeverSeen x = new NeverSeen();
        int[] atFirst = held(x);
        due.is("objects: " + atFirst[0], atFirst[0] * 1000 < ROOM_OF_OBJECTS ? 1 : 0, 1);
        due.is("elements: " + atFirst[1], atFirst[1] * 1000 < ROOM_OF_ELEMENTS ? 1 : 0, 1);
        NeverSeen used = fullHouseOfALongRule();
        used.image();
        asked(used);
        due.is("objects of one that was used", held(used)[0], atFirst[0]);
        due.is("elements of one that was used", held(used)[1], atFirst[1]);
    }
}
