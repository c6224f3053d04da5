import java.lang.reflect.InvocationTargetException;
import java.lang.reflect.Method;
import java.util.ArrayList;
import java.util.HashMap;
import java.util.List;
import java.util.Map;

/**
 * Runs of calls that are written as texts: "told(0, 0) = 3" is a call and the answer that is due, "stay(1, 5)" one
 * whose answer isn't looked at, "tape: steps 1;" feeds bytes, "row 0 2: 1 2 3" makes SHEET 0 one of sort 2. LEAST
 * and MOST are the ends of an int.
 *
 * Whether a call has changed anything is looked at by twins: two objects that are made alike, one of which gets the
 * call, must answer alike behind it, whatever they are asked.
 */
final class Runs {
    private static final int CALLS = 512;
    /** A house with something of all: a RULE of its own, an IMAGE that differs, a TAPE, rows of each sort, a SHEET missing. */
    static final String[] HOUSE = {
        "set(0, 0, 2)", "stay(1, 5)", "stay(6, 9)", "maid(3, 4, 2)", "maid(5, 0, 7)", "list(0, 3)", "list(0, 1)",
        "list(1, 6)", "set(1, 3, 20)", "tape: steps 2;does 3;costs 7;", "text()", "force(1)", "image()", "set(0, 0, 3)",
        "set(1, 5, 0)", "set(2, 0, 4)", "set(3, 0, 8)", "set(4, 0, 6)", "set(5, 0, 0)", "clear(1)", "list(1, 2)",
        "list(1, 5)", "maid(4, 2, 5)", "stay(3, 2)", "force(0)", "tape: steps 1;does 2;costs left;",
        "row 0 0: 4 4 6 0 0 0", "row 1 1: 7 5 3 1", "row 3 2: 2 3 4",
    };
    /** 8 STAYS, 4 MAIDS with 5 ROOMS each; no IMAGE. */
    static final String[] FULL_HOUSE = {
        "stay(0, 1)", "stay(1, 50)", "stay(2, 3)", "stay(3, 4)", "stay(4, 5)", "stay(5, 6)", "stay(6, 7)", "stay(7, 8)",
        "maid(0, 0, 0)", "maid(1, 9, 7)", "maid(2, 3, 4)", "maid(3, 5, 3)",
        "list(0, 0)", "list(0, 1)", "list(0, 2)", "list(0, 3)", "list(0, 4)",
        "list(1, 7)", "list(1, 7)", "list(1, 6)", "list(1, 5)", "list(1, 4)",
        "list(2, 4)", "list(2, 0)", "list(2, 4)", "list(2, 0)", "list(2, 4)",
        "list(3, 3)", "list(3, 7)", "list(3, 2)", "list(3, 6)", "list(3, 1)",
    };
    /** 6 TEXTS and 160 bytes on THE TAPE. */
    static final String[] FULL_TEXTS = {
        "stay(2, 3)", "maid(0, 0, 2)",
        "tape: steps 1;does 1;costs 1;", "text()", "tape: steps 2;does 1;costs 2;", "text()",
        "tape: steps 3;does 1;costs 3;", "text()", "tape: steps 4;does 1;costs 4;", "text()",
        "tape: steps 5;does 1;costs 5;", "text()", "tape: " + "steps 6;".repeat(20),
    };
    private static final Map<String, Method> FACE = new HashMap<>();

    static {
        for (Method m : NeverSeen.class.getDeclaredMethods()) {
            FACE.put(m.getName(), m);
        }
    }

    private final Due due;

    Runs(Due due) {
        this.due = due;
    }

    /** An object, and how many calls it has had: behind its 512th nothing is promised. */
    private static final class One {
        final NeverSeen x = new NeverSeen();
        int calls = 0;

        /** A call as a text. */
        long say(String call) {
            int open = call.indexOf('(');
            int close = call.indexOf(')');
            String inside = call.substring(open + 1, close).trim();
            String[] words = inside.isEmpty() ? new String[0] : inside.split(",");
            Object[] values = new Object[words.length];
            for (int i = 0; i < words.length; i++) {
                values[i] = (int) number(words[i].trim());
            }
            return call(call.substring(0, open).trim(), values);
        }

        long call(String name, Object... values) {
            calls++;
            if (calls > CALLS) {
                throw new IllegalStateException("a test asks too much of one object");
            }
            try {
                return ((Number) FACE.get(name).invoke(x, values)).longValue();
            } catch (InvocationTargetException | IllegalAccessException e) {
                throw new IllegalStateException(name, e);
            }
        }
    }

    private static long number(String word) {
        switch (word) {
            case "LEAST": return Integer.MIN_VALUE;
            case "MOST": return Integer.MAX_VALUE;
            case "NO": return -4611686018427387904L;
            default: return Long.parseLong(word);
        }
    }

    /** On a new object. */
    void run(String... steps) {
        go(new One(), steps);
    }

    /** On a new object that has been made as told. */
    void runOn(String[] made, String... steps) {
        One one = made(made);
        go(one, steps);
    }

    private static One made(String[] made) {
        One one = new One();
        new Runs(null).go(one, made);
        return one;
    }

    private void go(One one, String... steps) {
        for (int i = 0; i < steps.length; i++) {
            String step = steps[i];
            if (step.startsWith("tape: ")) {
                for (int k = 6; k < step.length(); k++) {
                    one.call("feed", (int) step.charAt(k));
                }
            } else if (step.startsWith("row ")) {
                row(one, step.substring(4));
            } else {
                int sign = step.indexOf(" = ");
                long got = one.say(sign < 0 ? step : step.substring(0, sign));
                if (sign >= 0) {
                    due.is("step " + i + " of " + String.join("; ", steps) + ": " + step, got, number(step.substring(sign + 3)));
                }
            }
        }
    }

    private static void row(One one, String row) {
        String[] head = row.substring(0, row.indexOf(':')).split(" ");
        String rest = row.substring(row.indexOf(':') + 1).trim();
        String[] items = rest.isEmpty() ? new String[0] : rest.split(" ");
        int sheet = Integer.parseInt(head[0]);
        one.call("sheet", sheet, Integer.parseInt(head[1]), items.length);
        for (int i = 0; i < items.length; i++) {
            one.call("cell", sheet, i, (int) number(items[i]));
        }
    }

    /** Each of these calls is refused, and nothing has changed behind it. */
    void refused(String[] made, long answer, String... calls) {
        for (String call : calls) {
            One asked = made(made);
            due.is(call + " on " + made.length + " steps", asked.say(call), answer);
            alike(call, whole(asked), whole(made(made)));
        }
    }

    /** In a new house, in one with something of all, in a full one. */
    void bad(String... calls) {
        refused(new String[0], -2, calls);
        refused(HOUSE, -2, calls);
        refused(FULL_HOUSE, -2, calls);
    }

    /** Each of these is answered, and nothing has changed behind it. */
    void onlyAsks(String[] made, String... calls) {
        for (String call : calls) {
            One asked = made(made);
            due.is(call + " is answered", asked.say(call) >= 0 ? 1 : 0, 1);
            alike(call, whole(asked), whole(made(made)));
        }
    }

    private void alike(String call, List<Long> got, List<Long> want) {
        int same = 0;
        while (same < Math.min(got.size(), want.size()) && got.get(same).equals(want.get(same))) {
            same++;
        }
        due.is(call + ": how much of what is seen behind it is as it was", same, Math.max(got.size(), want.size()));
    }

    /** All that can be seen of an object; it isn't as it was behind that. */
    private static List<Long> whole(One one) {
        List<Long> seen = new ArrayList<>();
        seeHouse(one, seen);
        seeShapes(one, seen);
        seeTexts(one, seen);
        seen.add(one.call("back"));
        seeHouse(one, seen);
        seeItems(one, seen);
        return seen;
    }

    private static void seeHouse(One one, List<Long> seen) {
        for (int what = 0; what < 7; what++) {
            seen.add(one.call("count", what));
        }
        long maids = one.call("count", 0);
        long stays = one.call("count", 1);
        see(one, seen, "told", 0, 0);
        for (int room = 0; room < 8; room++) {
            see(one, seen, "told", room, 1);
            see(one, seen, "morning", 100, 50 + room);
        }
        for (int stay = 0; stay < stays; stay++) {
            see(one, seen, "told", stay, 2);
            see(one, seen, "told", stay, 3);
        }
        for (int maid = 0; maid < maids; maid++) {
            for (int what = 4; what < 15; what++) {
                if (what < 8 || what >= 10) {
                    see(one, seen, "told", maid, what);
                }
            }
            see(one, seen, "morning", 60, 20 + maid);
        }
        see(one, seen, "morning", 100, 1);
    }

    private static void see(One one, List<Long> seen, String name, int a, int b) {
        seen.add(one.call(name, a, b));
    }

    private static int size(One one, int sheet) {
        int n = -1;
        for (int step = 32; step > 0; step /= 2) {
            if (n + step <= 40 && one.call("copy", sheet, n + step, sheet, n + step, 0) == 0) {
                n += step;
            }
        }
        return n;
    }

    private static int sort(One one, int sheet) {
        for (int sort = 0; sort < 3; sort++) {
            if (one.call("maids", sheet, sort, 0, 0) == 0) {
                return sort;
            }
        }
        return -1;
    }

    private static void seeShapes(One one, List<Long> seen) {
        for (int sheet = 0; sheet < 4; sheet++) {
            seen.add((long) size(one, sheet));
            seen.add((long) sort(one, sheet));
        }
    }

    /** What THE TAPE is read as, and what each TEXT makes of a morning. */
    private static void seeTexts(One one, List<Long> seen) {
        seen.add(one.call("text"));
        seen.add(one.call("count", 3));
        int rule = (int) one.call("count", 5);
        for (int text = 0; text < 6; text++) {
            seen.add(one.call("force", text));
            see(one, seen, "morning", 100, 1);
            see(one, seen, "morning", 50, 0);
        }
        seen.add(one.call("force", rule));
    }

    /** In MINUTE r he is in ROOM r: the least FROM of a row of one item tells that item. SHEET 3 is told as a whole. */
    private static void seeItems(One one, List<Long> seen) {
        for (int room = 0; room < 8; room++) {
            one.call("stay", room, 1);
            one.call("set", 2, room, room);
            one.call("set", 3, room, 1);
        }
        see(one, seen, "from", 3, 0);
        see(one, seen, "from", 3, 1);
        for (int sheet = 0; sheet < 3; sheet++) {
            int n = size(one, sheet);
            one.call("sheet", 3, sort(one, sheet), 1);
            for (int i = 0; i < n; i++) {
                seen.add(one.call("copy", sheet, i, 3, 0, 1));
                see(one, seen, "from", 3, 1);
            }
        }
    }
}
