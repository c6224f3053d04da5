import java.lang.reflect.InvocationTargetException;
import java.lang.reflect.Method;
import java.util.Arrays;

/**
 * Each call with each row of arguments that stand at an edge of something, or just outside, or far outside, alone and
 * together: answered by the program and by the Model. THE IMAGE is taken back behind each call, so that each is
 * asked of the same house.
 */
public final class GridTest {
    private static final Due due = new Due("GridTest");
    private static final int LEAST = Integer.MIN_VALUE, MOST = Integer.MAX_VALUE, CALLS = 400;
    private static final int[] EDGES = {
        LEAST, LEAST + 1, -101, -3, -2, -1, 0, 1, 2, 3, 4, 5, 6, 7, 8, 9, 10, 11, 14, 15, 19, 20, 21, 39, 40, 41, 49, 50, 51, 57, 58,
        99, 100, 101, 255, 256, MOST - 1, MOST,
    };
    private static final int[] FEWER = {LEAST, -1, 0, 1, 2, 3, 4, 5, 6, 39, 40, 41, MOST};
    private static final int[] FEWEST = {LEAST, -1, 0, 1, 2, 3, 4, 6, 40, MOST};
    private static final String[] FURNISHED = {
        "stay 1 5", "stay 6 9", "stay 3 2", "maid 3 4 2", "maid 5 0 7", "maid 4 2 5", "list 0 3", "list 0 1", "list 1 6",
        "list 2 5", "list 2 4", "set 1 3 20", "sheet 0 0 6", "cell 0 0 1", "cell 0 1 4", "cell 0 2 3", "sheet 1 1 4",
        "cell 1 0 7", "cell 1 3 1", "sheet 3 2 40", "cell 3 39 6", "feed 115", "image",
    };

    private NeverSeen x;
    private Model y;
    private int calls;

    public static void main(String[] args) {
        String[][] houses = {{"image"}, FURNISHED};
        for (String[] house : houses) {
            for (Method m : NeverSeen.class.getDeclaredMethods()) {
                if (java.lang.reflect.Modifier.isPublic(m.getModifiers())) {
                    new GridTest().ask(house, m.getName(), m.getParameterCount());
                }
            }
        }
        due.end();
    }

    private void ask(String[] house, String name, int parameters) {
        int[] edges = parameters < 4 ? EDGES : parameters == 4 ? FEWER : FEWEST;
        int[] at = new int[parameters];
        int[] values = new int[parameters];
        boolean more = true;
        calls = CALLS;
        while (more) {
            if (calls >= CALLS) {
                furnish(house);
            }
            for (int i = 0; i < parameters; i++) {
                values[i] = edges[at[i]];
            }
            both(name, values);
            both("back");
            more = turn(at, edges.length);
        }
    }

    /** The next row of places; none is behind the last. */
    private static boolean turn(int[] at, int n) {
        for (int i = 0; i < at.length; i++) {
            at[i]++;
            if (at[i] < n) {
                return true;
            }
            at[i] = 0;
        }
        return false;
    }

    private void furnish(String[] house) {
        x = new NeverSeen();
        y = new Model();
        calls = 0;
        for (String step : house) {
            String[] words = step.split(" ");
            both(words[0], Arrays.stream(words).skip(1).mapToInt(Integer::parseInt).toArray());
        }
    }

    private void both(String name, int... values) {
        calls++;
        due.is(name + Arrays.toString(values), answer(x, NeverSeen.class, name, values), answer(y, Model.class, name, values));
    }

    private static long answer(Object asked, Class<?> face, String name, int[] values) {
        Class<?>[] ints = new Class<?>[values.length];
        Arrays.fill(ints, int.class);
        try {
            Method m = face.getDeclaredMethod(name, ints);
            return ((Number) m.invoke(asked, Arrays.stream(values).boxed().toArray())).longValue();
        } catch (NoSuchMethodException | IllegalAccessException | InvocationTargetException e) {
            throw new IllegalStateException(name + Arrays.toString(values), e);
        }
    }
}
