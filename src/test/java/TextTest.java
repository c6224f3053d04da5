/** Promises 9 to 11, and what the texts tell: the tape, faults, values. */
public final class TextTest {
    private static final Due due = new Due("TextTest");

    public static void main(String[] args) {
        feed();
        text();
        textFull();
        force();
        faults();
        opened();
        values();
        wrapped();
        namesOfCosts();
        namesOfSteps();
        bounds();
        theFirstRule();
        due.end();
    }

    private static void feed() {
        NeverSeen x = new NeverSeen();
        due.is("feed(-1)", x.feed(-1), -2);
        due.is("feed(256)", x.feed(256), -2);
        due.is("nothing came", x.count(4), 0);
        due.is("feed(0)", x.feed(0), 1);
        due.is("feed(255)", x.feed(255), 2);
        for (int i = 3; i <= 160; i++) {
            due.is("feed " + i, x.feed(' '), i);
        }
        due.is("feed(32), full", x.feed(32), -4);
        due.is("feed(256), full", x.feed(256), -2);
        due.is("count(4)", x.count(4), 160);
        due.is("text() of a byte 0", x.text(), -100);
        due.is("the tape is empty", x.count(4), 0);
        for (int i = 1; i <= 160; i++) {
            x.feed(10);
        }
        due.is("text() of blanks", x.text(), -260);
    }

    private static void text() {
        NeverSeen x = new NeverSeen();
        due.is("text() of nothing", x.text(), -100);
        Due.feed(x, "steps 1;does 1;costs 1;");
        due.is("text()", x.text(), 1);
        due.is("tape after a text", x.count(4), 0);
        Due.feed(x, "steps 1;does 1;costs 1");
        due.is("text() that ends too early", x.text(), -122);
        due.is("tape after a fault", x.count(4), 0);
        due.is("texts after a fault", x.count(3), 2);
        Due.feed(x, "\n steps\n1\n;does 1;costs 1; \n");
        due.is("text() with blanks", x.text(), 2);
        StringBuilder whole = new StringBuilder("steps 1;does 1;costs 1");
        while (whole.length() < 158) {
            whole.append("+1");
        }
        whole.append(" ;");
        Due.feed(x, whole.toString());
        due.is("160 bytes", x.count(4), 160);
        due.is("text() of 160 bytes", x.text(), 3);
    }

    private static void textFull() {
        NeverSeen x = new NeverSeen();
        for (int i = 1; i <= 5; i++) {
            Due.feed(x, "steps 1;does 1;costs 1;");
            due.is("text " + i, x.text(), i);
        }
        due.is("count(3)", x.count(3), 6);
        Due.feed(x, "steps");
        due.is("text(), full", x.text(), -4);
        due.is("the tape stays", x.count(4), 5);
        due.is("force(5)", x.force(5), 0);
        due.is("force(6)", x.force(6), -2);
    }

    private static void force() {
        NeverSeen x = new NeverSeen();
        due.is("force(0)", x.force(0), 0);
        due.is("force(1)", x.force(1), -2);
        due.is("force(-1)", x.force(-1), -2);
        Due.feed(x, "steps 1;does 1;costs 7;");
        x.text();
        due.is("a text is not yet the rule", x.count(5), 0);
        due.is("force(1)", x.force(1), 0);
        due.is("force(2)", x.force(2), -2);
        due.is("count(5)", x.count(5), 1);
        due.is("force(0)", x.force(0), 1);
    }

    private static void faults() {
        String[][] told = { // the place is where the mark ! stands; ! is no part of the text
            {"!"}, {"!does 1;"}, {"steps !;"}, {"steps 1 !"}, {"steps 1 !2;"}, {"steps 1; !steps"}, {"steps 1;does 1;!1"},
            {"steps 1;does 1;costs 1;!;"}, {"steps 1;does 1;costs 1; !x"}, {"steps 1;does 1;costs 1;!"},
            {"!Steps 1;"}, {"!stepss 1;"}, {"!step 1;"}, {"steps !10000;"}, {"steps !00001;"}, {"steps 1+!12345"},
            {"steps 1 !12345"}, {"steps !foo;"}, {"steps !steps;"}, {"steps !or"}, {"steps 1 or !or"}, {"steps 1 !not 1"},
            {"steps 1+!not 1"}, {"steps 1<!not 1"}, {"steps -!not 1"}, {"steps 1<2!<3"}, {"steps 1=2!=3"}, {"steps 1<2!=3"},
            {"steps (1!;"}, {"steps (!)"}, {"steps 1!);"}, {"steps 1 + !;"}, {"steps 1*!*2"}, {"steps !+1"}, {"steps !*1"},
            {"steps 1!>2"}, {"steps 1!/2"}, {"steps 1!\t;"}, {"steps 1!\r;"}, {"steps not !;"}, {"steps 1 and !;"},
            {"steps minute !room;"}, {"steps minute!1;"}, {"steps 1!maids;"}, {"steps (1 or 2)!(3)"}, {"steps 1;does 1;costs !costs"},
            {"steps 1;does 1;costs 1!\u00e9;"}, {"steps 1 ;does 1; \n !"}, {"!; steps"}, {"steps 1;does 1;!does 1"},
            {"steps 1!does"}, {"steps !minutez"}, {"steps !zroom"}, {"steps !aroom"}, {"steps !rooms"}, {"steps !roo"}, {"steps (1) !not"}, {"steps 1 <!;"}, {"steps 1 = !"}, {"steps 9999!_;"},
        };
        for (String[] one : told) {
            int place = one[0].indexOf('!');
            String text = one[0].replace("!", "");
            boolean whole = place == text.length() && text.equals("steps 1;does 1;costs 1;");
            NeverSeen x = new NeverSeen();
            Due.feed(x, text);
            due.is("text() of " + one[0], x.text(), whole ? 1 : -100 - place);
        }
    }

    /** 5 of (, not, - may be open; the mark ! stands ahead of one too many. */
    private static void opened() {
        String[] told = {
            "(((((1)))))", "(((((!(1))))))", "-----1", "-----!-1", "not not not not not 1", "not not not not not !not 1",
            "-----!(1)", "(not (-(1)))", "(not (-(!-1)))", "(((((1-1-1)))))", "(((((1-!-1)))))",
            "(((((!not 1)))))", "-1 + -1 + -1 + -1 + -1 + -1 + -1", "(1)+(1)+(1)+(1)+(1)+(1)+(1)",
            "not 1 and not 1 or not 1 and not 1 and not 1 or not 1", "((((-1+-1))))", "((((-1*-1+(2)))))", "((((-!(1)))))",
            "not (not (not 1 and not 1))", "not (not (not !(1)))", "not ((((1<!-2))))", "((((not 1<!-2))))",
            "((((not 1<2 or -1))))", "((((not 1<2 and not 2 or (3)))))", "-(-(-1))*-(-(-!(1)))", "(((((!(1",
        };
        for (String e : told) {
            int place = e.indexOf('!');
            NeverSeen x = new NeverSeen();
            Due.feed(x, "steps " + e.replace("!", "") + ";does 1;costs 1;");
            due.is("text() of " + e, x.text(), place < 0 ? 1 : -106 - place);
        }
    }

    /** What it costs to be seen once is the value, as long as it is 0 .. 99. */
    private static int costOf(String e) {
        NeverSeen x = Due.withRule("steps 1;does 1;costs " + e + ";");
        x.stay(0, 1);
        x.maid(0, 0, 0);
        return x.count(5) == 1 ? x.morning(1, 1) : -99;
    }

    private static void values() {
        Object[][] told = {
            {"0", 0}, {"99", 99}, {"0042", 42}, {"2+3*4", 14}, {"(2+3)*4", 20}, {"9-2-1", 6}, {"9-(2-1)", 8}, {"2*3*4", 24},
            {"1<2", 1}, {"2<2", 0}, {"3<2", 0}, {"3=3", 1}, {"3=4", 0}, {"1+1=2", 1}, {"not 0", 1}, {"not 5", 0},
            {"not 0+1", 0}, {"not 2<1", 1}, {"not not 7", 1}, {"1 or 0 and 0", 1}, {"(1 or 0) and 0", 0}, {"0 and 0 or 1", 1},
            {"5 and 3", 1}, {"5 and 0", 0}, {"5 or 0", 1}, {"0 or 0", 0}, {"0 or 4", 1}, {"-3+5", 2}, {"- -4", 4}, {"-2*-3", 6},
            {"5--2", 7}, {"-(2-9)", 7}, {"not 1 or 1", 1}, {"not 1 and 0", 0}, {"0 or 2<3", 1}, {"1<2 and 3<2", 0},
            {"(1<2)+(2<3)", 2}, {"not (0 and 1)+1", 0}, {"7*(not 0)", 7}, {"-1 and 8", 1}, {"10-2*3", 4}, {"2-3+4", 3},
            {"1 and 1 and 0", 0}, {"0 or 0 or 3", 1}, {"-2<1", 1}, {"1<-2", 0}, {"12", 12}, {"(7)", 7},
        };
        for (Object[] one : told) {
            due.is("costs " + one[0], costOf((String) one[0]), (Integer) one[1]);
        }
    }

    private static void wrapped() {
        due.is("2^32 + 7", costOf("4096*4096*256+7"), 7);
        due.is("2^31 is below 0", costOf("(4096*4096*128<0)*5"), 5);
        due.is("2^31 - 1 is above 0", costOf("(0<4096*4096*128-1)*5"), 5);
        due.is("-2^31 is its own opposite", costOf("(-(4096*4096*128)=4096*4096*128)*6"), 6);
        due.is("2^31 - 1 + 1 is below 0", costOf("(4096*4096*128-1+1<0)*4"), 4);
        due.is("2^30 + 2^30 is below 0", costOf("(4096*4096*64+4096*4096*64<0)*3"), 3);
    }

    private static void namesOfCosts() {
        due.is("beside of costs", costOf("beside+3"), 3);
        due.is("left", costOf("left"), 9);
        NeverSeen x = Due.withRule("steps 1;does 1;costs minute;");
        x.stay(5, 50);
        x.maid(0, 0, 5);
        due.is("minutes 0 .. 4", x.morning(5, 1), 10);
        x = Due.withRule("steps 1;does 1;costs room*10+number;");
        x.stay(5, 50);
        x.maid(0, 7, 5);
        due.is("room, number", x.morning(1, 1), 57);
        x = Due.withRule("steps 1;does 1;costs 10*maids+1;");
        x.stay(5, 50);
        x.maid(0, 7, 5);
        x.maid(0, 7, 5);
        x.maid(0, 7, 4);
        x.maid(0, 7, 5);
        due.is("maids", x.morning(1, 1), 63);
        x = Due.withRule("steps 1;does 2+beside;costs 1;");
        x.maid(0, 7, 5);
        x.list(0, 5);
        due.is("beside of does", x.morning(1, 55), 7);
    }

    private static void namesOfSteps() {
        NeverSeen x = Due.withRule("steps beside*2+1;does 1;costs 1;");
        x.maid(0, 0, 3);
        x.list(0, 2);
        due.is("5 minutes to room 2, the last is not over", x.morning(5, 10), 3);
        due.is("5 minutes to room 2", x.morning(6, 10), 2);
        x = Due.withRule("steps room+left-8;does 9;costs 1;");
        x.maid(0, 0, 3);
        x.list(0, 2);
        due.is("4 minutes from room 3, the last is not over", x.morning(4, 10), 3);
        due.is("4 minutes from room 3", x.morning(5, 10), 2);
        x = Due.withRule("steps 1+3*(minute=1);does 9;costs 1;");
        x.maid(0, 0, 3);
        x.list(0, 3);
        x.list(0, 2);
        due.is("4 minutes in minute 1, the last is not over", x.morning(5, 10), 3);
        due.is("4 minutes in minute 1", x.morning(6, 10), 2);
        // maid 0 leaves ahead of maid 1, who has none with her then; those on a way are in no room
        x = Due.withRule("steps 1+3*maids;does 9;costs 1;");
        x.maid(0, 0, 3);
        x.maid(0, 0, 3);
        x.list(0, 2);
        x.list(1, 2);
        due.is("maid 1 walks 1 minute", x.morning(2, 11), 2);
        due.is("maid 0 walks longer", x.morning(4, 10), 3);
        due.is("maid 0 walks 4 minutes", x.morning(5, 10), 2);
    }

    private static void bounds() {
        due.is("costs 100", costOf("100"), 99);
        due.is("costs -1", costOf("-1"), 0);
        NeverSeen x = Due.withRule("steps 1;does 10;costs 1;");
        x.set(1, 0, 50);
        x.maid(0, 0, 0);
        x.list(0, 0);
        due.is("does 10", x.morning(1, 50), 41);
        x = Due.withRule("steps 1;does 0;costs 1;");
        x.maid(0, 0, 0);
        x.list(0, 0);
        due.is("does 0", x.morning(1, 50), 8);
        x = Due.withRule("steps 10;does 1;costs 1;");
        x.maid(0, 0, 0);
        x.list(0, 1);
        due.is("steps 10, on the way", x.morning(9, 10), 0);
        due.is("steps 10, there", x.morning(10, 10), 1);
        x = Due.withRule("steps -5;does 1;costs 1;");
        x.maid(0, 0, 0);
        x.list(0, 1);
        due.is("steps -5", x.morning(2, 10), 1);
        // the bound is that of the text, ahead of what a KIND makes of it
        x = Due.withRule("steps 99;does 99;costs 1;");
        x.set(1, 1, 99);
        x.maid(4, 9, 0);
        x.list(0, 1);
        due.is("a slow maid's 20 minutes, on the way", x.morning(20, 10), 0);
        due.is("a slow maid's 20 minutes", x.morning(21, 10), 1);
        due.is("a slow maid's work", x.morning(22, 51), 81);
    }

    private static void theFirstRule() {
        NeverSeen x = new NeverSeen();
        x.maid(0, 0, 0);
        x.maid(0, 0, 0);
        x.list(0, 0);
        x.list(0, 1);
        x.list(1, 0);
        x.stay(7, 1);
        due.is("two do two each", x.morning(1, 50), 5);
        due.is("step of one minute", x.morning(5, 10), 1);
        x.set(2, 0, 0);
        due.is("one shilling each", x.morning(1, 1), 2);
    }
}
