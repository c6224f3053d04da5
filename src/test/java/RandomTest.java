import java.util.Random;

/** All promises: runs of calls by chance (the same ones each time), answered by the program and by the Model. */
public final class RandomTest {
    private static final int RUNS = 500, CALLS = 300;
    private static final Due due = new Due("RandomTest");
    private static final String[] PIECES = {
        "steps ", "does ", "costs ", ";", ";", "1", "2", "37", "9999", "10000", "(", ")", "-", "+", "*", "<", "=", " not ",
        " or ", " and ", " minute ", " room ", " left ", " number ", " beside ", " maids ", "\n", "foo", "A", "\u00ff",
    };

    private final Random chance;
    private final NeverSeen x = new NeverSeen();
    private final Model y = new Model();

    private RandomTest(int seed) {
        chance = new Random(seed);
    }

    public static void main(String[] args) {
        for (int run = 0; run < RUNS; run++) {
            RandomTest test = new RandomTest(run);
            test.furnish(run);
            for (int call = 0; call < CALLS; call++) {
                test.step(run);
            }
            test.lookRound(run);
        }
        due.end();
    }

    private int upTo(int n) {
        return chance.nextInt(n);
    }

    /** A number within bounds mostly, sometimes just outside, seldom far outside. */
    private int near(int least, int most) {
        int kind = upTo(40);
        if (kind == 0) {
            return least - 1;
        }
        if (kind == 1) {
            return most + 1;
        }
        if (kind == 2) {
            int[] far = {Integer.MIN_VALUE, Integer.MAX_VALUE, -1, 256, 65536, -256};
            return far[upTo(far.length)];
        }
        return least + upTo(most - least + 1);
    }

    private void furnish(int run) {
        if (run % 5 == 0) {
            return; // an empty house, too
        }
        for (int i = upTo(5); i > 0; i--) {
            check(run, 1, new int[] {upTo(8), 1 + upTo(run % 3 == 0 ? 50 : 8)});
        }
        for (int m = upTo(5); m > 0; m--) {
            check(run, 2, new int[] {upTo(6), upTo(10), upTo(8)});
            for (int i = upTo(6); i > 0; i--) {
                check(run, 3, new int[] {upTo(4), upTo(8)});
            }
        }
        if (run % 2 == 0) {
            feedText(run);
            check(run, 9, new int[] {1});
        }
    }

    private void lookRound(int run) {
        for (int what = 0; what < 58; what++) {
            check(run, 15, new int[] {100, what});
        }
        for (int of = 0; of < 8; of++) {
            for (int what = 0; what < 15; what++) {
                check(run, 5, new int[] {of, what});
            }
        }
    }

    private void feedText(int run) {
        StringBuilder text = new StringBuilder();
        if (upTo(3) == 0) {
            for (int i = upTo(25); i > 0; i--) {
                text.append(PIECES[upTo(PIECES.length)]);
            }
        } else {
            for (String key : new String[] {"steps ", "does ", "costs "}) {
                text.append(key);
                expression(text, upTo(4));
                text.append(upTo(5) == 0 ? " ; " : ";");
            }
        }
        if (upTo(4) == 0 && text.length() > 0) {
            int at = upTo(text.length());
            if (upTo(2) == 0) {
                text.insert(at, PIECES[upTo(PIECES.length)]);
            } else {
                text.deleteCharAt(at);
            }
        }
        for (int i = 0; i < text.length(); i++) {
            check(run, 7, new int[] {text.charAt(i)});
        }
        check(run, 8, new int[] {});
    }

    /** An E, mostly a right one. */
    private void expression(StringBuilder out, int depth) {
        String[] joints = {"+", "-", "*", "<", "=", " and ", " or "};
        String[] ones = {"1", "3", "07", "minute", "room", "left", "number", "beside", "maids", "4096"};
        int kind = depth == 0 ? 0 : upTo(6);
        if (kind == 0) {
            out.append(ones[upTo(ones.length)]);
        } else if (kind == 1) {
            out.append("-");
            expression(out, depth - 1);
        } else if (kind == 2) {
            out.append("(not ");
            expression(out, depth - 1);
            out.append(")");
        } else if (kind == 3) {
            out.append("(");
            expression(out, depth - 1);
            out.append(")");
        } else {
            expression(out, depth - 1);
            out.append(joints[upTo(joints.length)]);
            expression(out, depth - 1);
        }
    }

    private void step(int run) {
        int call = upTo(36);
        int sheet = near(0, 3);
        int maid = near(0, Math.max(0, x.count(0) - 1));
        int room = near(0, 7);
        int what = near(0, 1);
        switch (call) {
            case 0: {
                int thing = near(0, 5);
                int[] most = {3, 99, 7, 50, 9, 7};
                int top = thing >= 0 && thing < 6 ? most[thing] : 9;
                check(run, 0, new int[] {thing, near(0, thing == 1 ? 7 : 3), near(thing == 3 ? 1 : 0, top)});
                break;
            }
            case 1: check(run, 1, new int[] {room, near(1, 50)}); break;
            case 2: check(run, 2, new int[] {near(0, 5), near(0, 9), room}); break;
            case 3: check(run, 3, new int[] {maid, room}); break;
            case 4: if (upTo(3) == 0) { check(run, 4, new int[] {maid}); } break;
            case 5: check(run, 5, new int[] {near(0, 7), near(0, 14)}); break;
            case 6: check(run, 6, new int[] {room, near(0, 7), what}); break;
            case 7: if (upTo(4) == 0) { check(run, 7, new int[] {near(0, 255)}); } break;
            case 8: if (upTo(4) == 0) { feedText(run); } break;
            case 9: check(run, 9, new int[] {near(0, Math.max(0, x.count(3) - 1))}); break;
            case 10: check(run, 10, new int[] {near(0, 99)}); break;
            case 11: check(run, 11, new int[] {room, near(0, 99)}); break;
            case 12: check(run, 12, new int[] {room, what}); break;
            case 13: check(run, 13, new int[] {near(0, 100)}); break;
            case 14: case 15: check(run, 15, new int[] {near(0, 100), near(0, 57)}); break;
            case 16: if (upTo(12) == 0) { check(run, 16, new int[] {maid, what}); } break;
            case 17: if (upTo(4) == 0) { check(run, 17, new int[] {maid, what}); } break;
            case 18: if (upTo(4) == 0) { check(run, 18, new int[] {what}); } break;
            case 19: if (upTo(4) == 0) { check(run, 19, new int[] {}); } break;
            case 20: check(run, 20, new int[] {sheet, what}); break;
            case 21: case 22: check(run, 21, new int[] {sheet, maid, near(0, 4)}); break;
            case 23: check(run, 22, new int[] {sheet, near(-1, x.count(0) - 1), near(0, upTo(2) == 0 ? 8 : 40)}); break;
            case 24: if (upTo(4) == 0) { check(run, 23, new int[] {chance.nextInt()}); } break;
            case 25: if (upTo(8) == 0) { check(run, 24, new int[] {chance.nextInt(), near(1, 20), what}); } break;
            case 26: if (upTo(4) == 0) { check(run, 25, new int[] {}); } break;
            case 27: if (upTo(4) == 0) { check(run, 26, new int[] {}); } break;
            case 28: check(run, 27, new int[] {near(0, 6)}); break;
            case 29: check(run, 28, new int[] {sheet, near(-1, 2), near(0, 40)}); break;
            case 30: case 31: case 32: check(run, 29, new int[] {sheet, near(0, 12), upTo(3) == 0 ? chance.nextInt() : near(-1, 9)}); break;
            case 33: check(run, 30, new int[] {sheet, near(0, 8), near(0, 3), near(0, 8), near(0, 9)}); break;
            case 34: if (upTo(2) == 0) { check(run, 31, new int[] {sheet, near(0, 2), near(0, 12), near(0, 4)}); } break;
            default: check(run, 32, new int[] {maid, near(0, 5)}); break;
        }
    }

    private void check(int run, int call, int[] a) {
        due.is("run " + run + ": call " + call + java.util.Arrays.toString(a), program(call, a), model(call, a));
    }

    private long program(int call, int[] a) {
        switch (call) {
            case 0: return x.set(a[0], a[1], a[2]);
            case 1: return x.stay(a[0], a[1]);
            case 2: return x.maid(a[0], a[1], a[2]);
            case 3: return x.list(a[0], a[1]);
            case 4: return x.clear(a[0]);
            case 5: return x.told(a[0], a[1]);
            case 6: return x.way(a[0], a[1], a[2]);
            case 7: return x.feed(a[0]);
            case 8: return x.text();
            case 9: return x.force(a[0]);
            case 10: return x.master(a[0]);
            case 11: return x.free(a[0], a[1]);
            case 12: return x.longest(a[0], a[1]);
            case 13: return x.never(a[0]);
            case 15: return x.morning(a[0], a[1]);
            case 16: return x.best(a[0], a[1]);
            case 17: return x.begin(a[0], a[1]);
            case 18: return x.home(a[0]);
            case 19: return x.stairs();
            case 20: return x.from(a[0], a[1]);
            case 21: return x.door(a[0], a[1], a[2]);
            case 22: return x.film(a[0], a[1], a[2]);
            case 23: return x.drawn(a[0]);
            case 24: return x.chance(a[0], a[1], a[2]);
            case 25: return x.image();
            case 26: return x.back();
            case 27: return x.count(a[0]);
            case 28: return x.sheet(a[0], a[1], a[2]);
            case 29: return x.cell(a[0], a[1], a[2]);
            case 30: return x.copy(a[0], a[1], a[2], a[3], a[4]);
            case 31: return x.maids(a[0], a[1], a[2], a[3]);
            default: return x.taken(a[0], a[1]);
        }
    }

    private long model(int call, int[] a) {
        switch (call) {
            case 0: return y.set(a[0], a[1], a[2]);
            case 1: return y.stay(a[0], a[1]);
            case 2: return y.maid(a[0], a[1], a[2]);
            case 3: return y.list(a[0], a[1]);
            case 4: return y.clear(a[0]);
            case 5: return y.told(a[0], a[1]);
            case 6: return y.way(a[0], a[1], a[2]);
            case 7: return y.feed(a[0]);
            case 8: return y.text();
            case 9: return y.force(a[0]);
            case 10: return y.master(a[0]);
            case 11: return y.free(a[0], a[1]);
            case 12: return y.longest(a[0], a[1]);
            case 13: return y.never(a[0]);
            case 15: return y.morning(a[0], a[1]);
            case 16: return y.best(a[0], a[1]);
            case 17: return y.begin(a[0], a[1]);
            case 18: return y.home(a[0]);
            case 19: return y.stairs();
            case 20: return y.from(a[0], a[1]);
            case 21: return y.door(a[0], a[1], a[2]);
            case 22: return y.film(a[0], a[1], a[2]);
            case 23: return y.drawn(a[0]);
            case 24: return y.chance(a[0], a[1], a[2]);
            case 25: return y.image();
            case 26: return y.back();
            case 27: return y.count(a[0]);
            case 28: return y.sheet(a[0], a[1], a[2]);
            case 29: return y.cell(a[0], a[1], a[2]);
            case 30: return y.copy(a[0], a[1], a[2], a[3], a[4]);
            case 31: return y.maids(a[0], a[1], a[2], a[3]);
            default: return y.taken(a[0], a[1]);
        }
    }
}
