import java.util.ArrayList;
import java.util.List;

/** The edges of the texts, told sentence by sentence: terms 1 (the text block), promises 9 to 11. */
public final class EdgeTextTest {
    private static final Due due = new Due("EdgeTextTest");
    private static final Runs runs = new Runs(due);
    private static final String TWO_TO_31 = "4096*4096*128";

    public static void main(String[] args) {
        bytesThatAreTaken();
        bytesThatAreRefused();
        theTapeIsFull();
        theTapeIsEmptyBehindAText();
        theTapeIsEmptyBehindAFault();
        sixTextsAtMost();
        fullIsAheadOfAll();
        aFaultTakesNoRoom();
        aFaultChangesNoText();
        aTextBehindALongerOne();
        textsThatAreForced();
        textsThatAreNotThere();
        everyByteBehindANumber();
        everyByteBehindAName();
        everyByteBehindAText();
        everyByteAheadOfAText();
        tokensAreAsLongAsCanBe();
        numbersOfFourDigits();
        wordsThatAreNone();
        blanksMayStandBetween();
        endsTooEarly();
        firstFaultIsTold();
        textIsThreeParts();
        oneComparisonOnly();
        notStandsAheadOfASum();
        keysAreNoNames();
        onesThatAreMissing();
        bracketsMustFit();
        fiveMayBeOpen();
        allKindsOfFive();
        whatClosesAgain();
        minusBetweenTermsOpensNothing();
        truthIsOneOrZero();
        whatBindsCloser();
        intsWrap();
        boundsOfSteps();
        boundsOfDoes();
        boundsOfCosts();
        namesAtTheirEnds();
        besideIsOfStepsAlone();
        maidsOnAWayAreNone();
        theRuleAtFirst();
        due.end();
    }

    private static long read(String text) {
        NeverSeen x = new NeverSeen();
        Due.feed(x, text);
        return x.text();
    }

    private static void isText(String text) {
        due.is("text() of " + text, read(text), 1);
    }

    /** The mark ! stands ahead of the FAULT and is no part of the text. */
    private static void faults(String marked) {
        due.is("text() of " + marked, read(marked.replace("!", "")), -100 - marked.indexOf('!'));
    }

    /** As an E of steps. */
    private static void isE(String e) {
        isText("steps " + e + ";does 1;costs 1;");
    }

    private static void faultsE(String marked) {
        faults("steps " + marked + ";does 1;costs 1;");
    }

    /** The value of an E, if it is 0 .. 99: what it costs to be seen in MINUTE 0, in ROOM 0. */
    private static void costs(String e, int want) {
        NeverSeen x = Due.withRule("steps 1;does 1;costs " + e + ";");
        due.is("costs " + e + " is a TEXT", x.count(5), 1);
        x.stay(0, 1);
        x.maid(0, 0, 0);
        due.is("costs " + e, x.morning(1, 1), want);
    }

    /** "A byte (0 .. 255) comes behind THE TAPE: how many it has." */
    private static void bytesThatAreTaken() {
        runs.run("feed(0) = 1", "feed(255) = 2", "feed(1) = 3", "feed(254) = 4", "count(4) = 4");
    }

    /** "A byte (0 .. 255)": -1 and 256 are BAD, ahead of FULL. */
    private static void bytesThatAreRefused() {
        runs.bad("feed(-1)", "feed(256)", "feed(LEAST)", "feed(MOST)");
        runs.refused(Runs.FULL_TEXTS, -2, "feed(-1)", "feed(256)");
    }

    /** "THE TAPE (160 bytes at most)"; "BAD; FULL." */
    private static void theTapeIsFull() {
        runs.run("tape: " + "x".repeat(158), "feed(120) = 159", "feed(120) = 160", "feed(120) = -4", "feed(32) = -4", "count(4) = 160", "text() = -100", "feed(120) = 1");
        runs.refused(Runs.FULL_TEXTS, -4, "feed(0)", "feed(32)", "feed(255)");
        String whole = "steps 1;does 1;costs 1" + "+1".repeat(68) + " ;";
        due.is("its size", whole.length(), 160);
        isText(whole);
        isText("steps 1;does 1;costs 1;" + " ".repeat(137));
        faults("steps 1;does 1;costs 1" + "+1".repeat(69) + "!");
        faults(" ".repeat(160) + "!");
        faults(" ".repeat(159) + "!;");
    }

    /** "THE TAPE, which is empty then .. is a TEXT: its number" */
    private static void theTapeIsEmptyBehindAText() {
        runs.run("tape: steps 1;does 1;costs 1;", "count(4) = 23", "text() = 1", "count(4) = 0", "text() = -100", "feed(115) = 1");
    }

    /** "which is empty then (by a FAULT, too)" */
    private static void theTapeIsEmptyBehindAFault() {
        runs.run("tape: steps 1;does 1;costs 1", "count(4) = 22", "text() = -122", "count(4) = 0", "text() = -100", "tape: steps 1;does 1;costs 1;", "text() = 1");
    }

    /** "There are 6 TEXTS at most, TEXT 0 with them." */
    private static void sixTextsAtMost() {
        String t = "tape: steps 1;does 1;costs 1;";
        runs.run("count(3) = 1", t, "text() = 1", t, "text() = 2", t, "text() = 3", t, "text() = 4", t, "text() = 5", "count(3) = 6", t, "text() = -4", "count(3) = 6");
    }

    /** "FULL (ahead of all): no TEXT more has room (THE TAPE stays)." */
    private static void fullIsAheadOfAll() {
        runs.refused(Runs.FULL_TEXTS, -4, "text()");
        runs.runOn(Runs.FULL_TEXTS, "text() = -4", "count(4) = 160", "feed(32) = -4", "text() = -4", "count(4) = 160");
        String t = "tape: steps 1;does 1;costs 1;";
        String[] five = {t, "text()", t, "text()", t, "text()", t, "text()", t, "text()"};
        runs.runOn(five, "text() = -4", "count(4) = 0", "feed(0) = 1", "text() = -4", "count(4) = 1");
        runs.runOn(five, "tape: nonsense", "text() = -4", "count(4) = 8", t, "text() = -4", "count(4) = 31", "feed(32) = 32");
    }

    /** Behind a FAULT the next TEXT has the number that was due. */
    private static void aFaultTakesNoRoom() {
        String t = "tape: steps 1;does 1;costs 1;";
        runs.run("text() = -100", "count(3) = 1", t, "text() = 1", "tape: x", "text() = -100", "count(3) = 2", "force(2) = -2", t, "text() = 2", "force(2) = 0");
        runs.run(t, "text()", t, "text()", t, "text()", t, "text() = 4", "tape: steps 1;does 1;costs 1;;", "text() = -123", t, "text() = 5", t, "text() = -4");
    }

    /** "Refusals .. change nothing": not THE RULE, no TEXT that was read ahead. */
    private static void aFaultChangesNoText() {
        runs.run("stay(0, 1)", "maid(0, 0, 0)", "tape: steps 1;does 1;costs 7;", "text() = 1", "force(1)", "tape: steps 1;does 1;costs 55;x", "text() = -124",
            "count(5) = 1", "morning(1, 1) = 7", "force(0) = 1", "morning(1, 1) = 1");
    }

    /** What was read ahead of it is no part of a TEXT, be it read or faulty. */
    private static void aTextBehindALongerOne() {
        runs.run("stay(0, 1)", "maid(0, 0, 0)", "tape: steps 1;does 1;costs -7;", "text() = 1", "tape: steps 1;does 1;costs 7;", "text() = 2", "force(2)", "morning(1, 1) = 7", "force(1)", "morning(1, 1) = 0");
        runs.run("stay(0, 1)", "maid(0, 0, 0)", "tape: steps 1;does 1;costs not not not 7;;", "text() = -135", "tape: steps 1;does 1;costs 8;", "text() = 1", "force(1)", "morning(1, 1) = 8");
    }

    /** "A TEXT is THE RULE: which was." */
    private static void textsThatAreForced() {
        runs.run("count(5) = 0", "force(0) = 0", "tape: steps 1;does 1;costs 7;", "text()", "count(5) = 0", "force(1) = 0", "force(1) = 1", "count(5) = 1", "force(0) = 1");
        runs.runOn(Runs.FULL_TEXTS, "force(5) = 0", "morning(1, 1) = 5", "force(0) = 5", "morning(1, 1) = 1", "force(4) = 0", "morning(1, 1) = 4", "count(5) = 4");
    }

    /** "BAD": one behind the last TEXT, below 0. */
    private static void textsThatAreNotThere() {
        runs.refused(new String[0], -2, "force(1)", "force(-1)", "force(LEAST)", "force(MOST)");
        runs.refused(Runs.HOUSE, -2, "force(2)", "force(-1)", "force(5)");
        runs.refused(Runs.FULL_TEXTS, -2, "force(6)", "force(-1)", "force(MOST)");
    }

    private static boolean isDigit(int b) {
        return b >= '0' && b <= '9';
    }

    /** "WORDS (a .. z), NUMBERS .., SIGNS ( ) ; + - * < = ; blanks (32, 10)"; "a byte that begins none": each of 256, between 1 and 1. */
    private static void everyByteBehindANumber() {
        for (int b = 0; b < 256; b++) {
            long want = -107;
            if (isDigit(b) || "+-*<=".indexOf(b) >= 0) {
                want = 1;
            } else if (b == 32 || b == 10 || b == ';') {
                want = -108;
            }
            due.is("text() with byte " + b + " between 1 and 1", read("steps 1" + (char) b + "1;does 1;costs 1;"), want);
        }
    }

    /** A letter makes it another WORD, which is none; other bytes end it. */
    private static void everyByteBehindAName() {
        for (int b = 0; b < 256; b++) {
            long want = -112;
            if (b >= 'a' && b <= 'z') {
                want = -106;
            } else if (b == 32 || b == 10) {
                want = 1;
            } else if ("+-*<=".indexOf(b) >= 0) {
                want = -113;
            }
            long got = read("steps minute" + (char) b + ";does 1;costs 1;");
            due.is("text() with byte " + b + " behind minute", got, b == ';' ? -113 : want);
        }
    }

    private static void everyByteBehindAText() {
        for (int b = 0; b < 256; b++) {
            due.is("text() with byte " + b + " behind all", read("steps 1;does 1;costs 1;" + (char) b), b == 32 || b == 10 ? 1 : -123);
        }
    }

    private static void everyByteAheadOfAText() {
        for (int b = 0; b < 256; b++) {
            due.is("text() with byte " + b + " ahead of all", read((char) b + "steps 1;does 1;costs 1;"), b == 32 || b == 10 ? 1 : -100);
        }
    }

    /** "TOKENS, each as long as can be" */
    private static void tokensAreAsLongAsCanBe() {
        isText("steps1;does1;costs1;");
        isE("1or 2");
        isE("1 or2");
        isE("not1");
        isE("minute*1and 2");
        faultsE("12!minute");
        faultsE("minute!12");
        faultsE("!minuteroom");
        faultsE("1 or2or!");
        faultsE("1 !orr 2");
        faultsE("!nott");
        faultsE("!12345");
        faultsE("1!(2)");
        faultsE("1=!=1");
        faultsE("1<!=1");
    }

    /** "NUMBERS (as many digits as stand there, 4 at most)"; "a NUMBER that is too long": told by its first byte. */
    private static void numbersOfFourDigits() {
        isE("9999");
        isE("0000");
        isE("1000");
        faultsE("!10000");
        faultsE("!00000");
        faultsE("!00001");
        faultsE("1+!99999+1");
        faultsE("9999+!12345");
        faults("steps !" + "1".repeat(154));
        costs("9999-9998", 1);
        costs("9999=9998+1", 1);
        costs("0012", 12);
        costs("0099", 99);
        costs("0", 0);
        costs("0000", 0);
    }

    /** "a WORD that is neither KEY nor NAME" */
    private static void wordsThatAreNone() {
        String[] names = {"minute", "room", "left", "number", "beside", "maids"};
        for (String name : names) {
            isE(name);
            faultsE("!" + name + "s");
            faultsE("!" + name.substring(0, name.length() - 1));
            faultsE("!" + name.substring(1));
            faultsE("!a" + name);
            faultsE("!" + name.toUpperCase());
            faultsE("!" + name.substring(0, 1).toUpperCase() + name.substring(1));
        }
        faultsE("!a");
        faultsE("!z");
        faultsE("1 !x");
        faultsE("!" + "minute".repeat(20));
    }

    /** "blanks (32, 10) may stand between": none, many, ahead of all, behind all; not within a TOKEN. */
    private static void blanksMayStandBetween() {
        isText("steps 1;does 1;costs 1;");
        isText(" \n steps \n 1 \n ; \n does \n 1 \n ; \n costs \n 1 \n ; \n ");
        isText("\nsteps\n1\n;\ndoes\n1\n;\ncosts\n1\n;\n");
        isE("1 +\n- ( 2 )");
        faults("!st eps 1;");
        faultsE("1 !2");
        faultsE("!min ute");
        faults("steps!\t1;");
        faults("steps 1;!\rdoes 1;costs 1;");
    }

    /** "the text's size, if it ends too early": blanks behind it are of it. */
    private static void endsTooEarly() {
        String whole = "steps 1;does (2);costs -3;";
        for (int size = 0; size < whole.length(); size++) {
            String part = whole.substring(0, size);
            boolean cutsAWord = size > 0 && Character.isLetter(whole.charAt(size)) && Character.isLetter(whole.charAt(size - 1));
            if (!cutsAWord) {
                faults(part + "!");
                faults(part + "  \n!");
            }
        }
        faults("!");
        faults("   !");
        faults("steps 1 or not!");
        faults("steps minute!");
        faults("!ste");
    }

    /** "the place of the first byte of the first TOKEN that can't stand there" */
    private static void firstFaultIsTold() {
        faults("!does 1;does 1;does 1;");
        faultsE("1 + !; foo 99999 $");
        faultsE("!foo bar");
        faultsE("1 !99999 foo");
        faults("steps 1;does !;costs ;");
        faults("steps 1;does 1;costs 1;!steps 1;");
    }

    /** "TEXT: steps E ; does E ; costs E ;" */
    private static void textIsThreeParts() {
        faults("!costs 1;does 1;steps 1;");
        faults("steps 1;!costs 1;does 1;");
        faults("steps 1;does 1;!does 1;");
        faults("steps 1;does 1;costs 1;!;");
        faults("!1;does 1;costs 1;");
        faults("steps !;does 1;costs 1;");
        faults("steps 1 !does 1;costs 1;");
        faults("steps 1;!;does 1;costs 1;");
        faults("steps 1;does 1;costs 1!");
        faults("!;steps 1;does 1;costs 1;");
    }

    /** "SUM, perhaps < or = and a SUM": one, no more; in brackets anew. */
    private static void oneComparisonOnly() {
        isE("1<2");
        isE("1=2");
        isE("(1<2)<3");
        isE("1<(2=3)");
        isE("1<2 and 2<3 or 3=3");
        faultsE("1<2!<3");
        faultsE("1<2!=3");
        faultsE("1=2!=3");
        faultsE("1=2!<3");
        faultsE("(1<2!<3)");
    }

    /** "NOT: not NOT, or SUM ..": no not behind a sign. */
    private static void notStandsAheadOfASum() {
        isE("not not 1");
        isE("not 1<2");
        isE("1 and not 1");
        isE("1 or not 1");
        isE("1+(not 1)");
        faultsE("1+!not 1");
        faultsE("1*!not 1");
        faultsE("1<!not 1");
        faultsE("-!not 1");
        faultsE("1 !not 1");
        faultsE("not !or 1");
    }

    /** "steps, does, costs, or, and, not are KEYS": none is a ONE. */
    private static void keysAreNoNames() {
        String[] keys = {"steps", "does", "costs", "or", "and"};
        for (String key : keys) {
            faultsE("!" + key);
            faultsE("1+!" + key);
            faultsE("(!" + key + ")");
        }
        faultsE("1 !steps");
    }

    /** "SUM: TERM { + or - TERM }. TERM: ONE { * ONE }. ONE: a NUMBER, a NAME, - ONE, ( E )." */
    private static void onesThatAreMissing() {
        isE("1");
        isE("- 1");
        isE("-minute");
        isE("-(1 or 2)");
        isE("1--1");
        isE("1*-1");
        faultsE("!+1");
        faultsE("!*1");
        faultsE("!<1");
        faultsE("1+!");
        faultsE("1+!+1");
        faultsE("1*!*1");
        faultsE("1-!*1");
        faultsE("-!");
        faultsE("1 and !");
        faultsE("1 or !and 1");
        faultsE("not !");
        faultsE("1 <!");
        faultsE("1 !1");
        faultsE("minute !minute");
    }

    private static void bracketsMustFit() {
        faultsE("(!)");
        faultsE("(1!");
        faultsE("1!)");
        faultsE("((1)!");
        faultsE("(1)!)");
        faultsE("(1!(2))");
        faultsE("(1)!(2)");
        faultsE("(12 !3)");
    }

    /** "a ( , a not, a - ahead of a ONE while 5 of these are open" */
    private static void fiveMayBeOpen() {
        isE("(((((1)))))");
        faultsE("(((((!(1))))))");
        isE("-----1");
        faultsE("-----!-1");
        isE("not not not not not 1");
        faultsE("not not not not not !not 1");
        faults("steps 1;does 1;costs (((((!(1");
        faults("steps 1;does (((((!(1");
    }

    /** All rows of five, and of six, of ( and not and -, as far as the grammar lets them stand. */
    private static void allKindsOfFive() {
        List<String> rows = new ArrayList<>();
        rows.add("");
        for (int size = 1; size <= 6; size++) {
            List<String> longer = new ArrayList<>();
            for (String row : rows) {
                longer.add(row + "(");
                longer.add(row + "-");
                if (!row.endsWith("-")) {
                    longer.add(row + "n");
                }
            }
            for (String row : longer) {
                String closing = ")".repeat((int) row.chars().filter(c -> c == '(').count());
                if (size <= 5) {
                    isE(row.replace("n", "not ") + "1" + closing);
                } else {
                    faultsE(row.substring(0, 5).replace("n", "not ") + "!" + row.substring(5).replace("n", "not ") + "1" + closing);
                }
            }
            rows = longer;
        }
    }

    /** "(a ( till its ), not and - till what they belong to ends)" */
    private static void whatClosesAgain() {
        isE("(((((1)))))+(((((1)))))");
        faultsE("(((((1)))))+(((((!(1))))))");
        isE("((1)+((((1)))))");
        faultsE("((1)+((((!(1))))))");
        isE("-----1*-----1");
        isE("-----1+-----1------1");
        faultsE("-----1*-----!-1");
        isE("not not not not not 1 and not not not not not 1");
        isE("not not not not not 1 or not not not not not 1");
        faultsE("not not not not not 1 and not not not not not !not 1");
        faultsE("not not not not not 1<!-1");
        faultsE("not not not not not 1+!-1");
        faultsE("not not not not not 1*!(1)");
        isE("not not not not not 1<1 and -1");
        isE("not not not not -1+(1)");
        isE("not not not not 1 < -1");
        isE("-(-(-1))+-(-(-1))");
        faultsE("-(-(-!(1)))");
        isE("((((-1))))*-----1");
        isE("((((not 1 or not 1 and not 1))))");
        faultsE("((((not 1 or not !-1))))");
        isE("((((not 1 or -1))))");
        isE("((((-1*-1--1))))");
    }

    /** "a - ahead of a ONE": one between TERMS opens nothing. */
    private static void minusBetweenTermsOpensNothing() {
        isE("1-1-1-1-1-1-1-1");
        isE("(((((1-1-1)))))");
        isE("(((((1)-1))))");
        faultsE("(((((1-!-1)))))");
    }

    /** "of or, and, not, <, = 1 or 0 (what is not 0 is true)" */
    private static void truthIsOneOrZero() {
        costs("5 or 7", 1);
        costs("0 or 7", 1);
        costs("7 or 0", 1);
        costs("0 or 0", 0);
        costs("0 or -1", 1);
        costs("2 and 4", 1);
        costs("-2 and -4", 1);
        costs("0 and 4", 0);
        costs("4 and 0", 0);
        costs("not 0", 1);
        costs("not 1", 0);
        costs("not 2", 0);
        costs("not -1", 0);
        costs("not not 5", 1);
        costs("2<3", 1);
        costs("3<3", 0);
        costs("4<3", 0);
        costs("-1<0", 1);
        costs("3=3", 1);
        costs("3=2", 0);
        costs("-3=3", 0);
        costs("9 or 0 and 0", 1);
        costs("20*(5 or 0)+(6 and 6)", 21);
        costs("7", 7);
        costs("(7)", 7);
    }

    /** "E: AND { or AND }. AND: NOT { and NOT } .." */
    private static void whatBindsCloser() {
        costs("2+3*4", 14);
        costs("2*3+4", 10);
        costs("9-4-3", 2);
        costs("9-4+3", 8);
        costs("-2+5", 3);
        costs("-2*-3", 6);
        costs("1+1<1+2", 1);
        costs("2*2=4", 1);
        costs("not 1=2", 1);
        costs("not 1<2", 0);
        costs("not 0 and 0", 0);
        costs("not 1 or 1", 1);
        costs("1 or 1 and 0", 1);
        costs("0 and 0 or 1", 1);
        costs("0 and (0 or 1)", 0);
        costs("0 or 0 or 1", 1);
        costs("1 and 1 and 0", 0);
        costs("2*(3+4)", 14);
    }

    /** "An E is an int (32 bits, wrapping)" */
    private static void intsWrap() {
        costs("(" + TWO_TO_31 + "<0)*5", 5);
        costs("(0<" + TWO_TO_31 + "-1)*5", 5);
        costs("(" + TWO_TO_31 + "-1+1<0)*5", 5);
        costs("(" + TWO_TO_31 + "-1+1=" + TWO_TO_31 + ")*5", 5);
        costs("4096*4096*256", 0);
        costs("4096*4096*256+3", 3);
        costs(TWO_TO_31 + "+" + TWO_TO_31 + "+4", 4);
        costs("-(" + TWO_TO_31 + ")=" + TWO_TO_31, 1);
        costs("-(" + TWO_TO_31 + ")<0", 1);
        costs(TWO_TO_31 + "*-1<0", 1);
        costs(TWO_TO_31 + "<" + TWO_TO_31 + "-1", 1);
        costs(TWO_TO_31 + "-1<" + TWO_TO_31, 0);
        costs("9999*9999*9999=0-9999*9999", 0);
        costs("not " + TWO_TO_31, 0);
        costs("not 4096*4096*256", 1);
    }

    /** How many MINUTES a MAID (of KIND 0) walks from ROOM 0 to 1. */
    private static void steps(String e, int want) {
        NeverSeen x = Due.withRule("steps " + e + ";does 1;costs 1;");
        x.maid(0, 0, 0);
        x.list(0, 1);
        due.is("steps " + e + ", still on the way", x.morning(want, 10), 0);
        due.is("steps " + e + ", there", x.morning(want + 1, 10), 1);
    }

    /** "steps (1 .. 9, else the bound)" */
    private static void boundsOfSteps() {
        steps("1", 1);
        steps("0", 1);
        steps("-1", 1);
        steps("2", 2);
        steps("8", 8);
        steps("9", 9);
        steps("10", 9);
        steps("9999", 9);
        steps(TWO_TO_31, 1);
        steps(TWO_TO_31 + "-1", 9);
    }

    private static void does(String e, int want) {
        NeverSeen x = Due.withRule("steps 1;does " + e + ";costs 1;");
        x.set(1, 0, 99);
        x.maid(0, 0, 0);
        x.list(0, 0);
        due.is("does " + e, x.morning(1, 50), 99 - want);
    }

    /** "does (1 .. 9, else the bound)" */
    private static void boundsOfDoes() {
        does("1", 1);
        does("0", 1);
        does("-1", 1);
        does("2", 2);
        does("8", 8);
        does("9", 9);
        does("10", 9);
        does("9999", 9);
        does(TWO_TO_31, 1);
        does(TWO_TO_31 + "-1", 9);
    }

    /** "costs: shillings, when she is SEEN (0 .. 99, else the bound)": of each MAID and MINUTE. */
    private static void boundsOfCosts() {
        costs("0", 0);
        costs("-1", 0);
        costs("1", 1);
        costs("98", 98);
        costs("99", 99);
        costs("100", 99);
        costs("9999", 99);
        costs(TWO_TO_31, 0);
        costs(TWO_TO_31 + "-1", 99);
        runs.run("tape: steps 1;does 1;costs 500;", "text()", "force(1)", "stay(0, 1)", "maid(0, 0, 0)", "maid(0, 0, 0)", "maid(0, 0, 0)", "maid(0, 0, 0)",
            "morning(1, 1) = 396", "morning(100, 1) = 39600", "morning(100, 3) = 39672");
        runs.run("tape: steps 1;does 1;costs -5;", "text()", "force(1)", "stay(0, 1)", "maid(0, 0, 0)", "maid(0, 0, 0)", "morning(100, 1) = 0", "morning(100, 20) = 100");
    }

    /** "minute: the MINUTE; room: the ROOM where she is; left: WORK left there; number: NUMBER; .. maids: how many other MAIDS" */
    private static void namesAtTheirEnds() {
        String[] minute = {"tape: steps 1;does 1;costs minute;", "text()", "force(1)", "stay(7, 50)", "stay(7, 49)", "stay(0, 1)", "maid(0, 0, 0)"};
        runs.runOn(minute, "morning(99, 1) = 0", "morning(99, 20) = 0", "morning(100, 20) = 1", "morning(100, 1) = 99");
        String[] first = {"tape: steps 1;does 1;costs 50+minute;", "text()", "force(1)", "stay(0, 1)", "stay(7, 50)", "stay(7, 50)", "maid(0, 0, 0)"};
        runs.runOn(first, "morning(1, 1) = 50", "morning(100, 1) = 50");
        String[] room = {"tape: steps 1;does 1;costs room*10+1;", "text()", "force(1)", "stay(0, 1)", "maid(0, 9, 0)", "maid(0, 9, 7)"};
        runs.runOn(room, "morning(1, 1) = 1", "set(2, 0, 7)", "morning(1, 1) = 71");
        String[] left = {"tape: steps 1;does 1;costs left;", "text()", "force(1)", "stay(3, 1)", "set(1, 3, 99)", "maid(0, 0, 3)"};
        runs.runOn(left, "morning(1, 1) = 99", "set(1, 3, 0)", "morning(1, 1) = 0", "set(1, 3, 1)", "morning(1, 1) = 1");
        String[] number = {"tape: steps 1;does 1;costs number+1;", "text()", "force(1)", "stay(3, 1)", "maid(0, 9, 3)"};
        runs.runOn(number, "morning(1, 1) = 10", "set(4, 0, 0)", "morning(1, 1) = 1");
        String[] maids = {"tape: steps 1;does 1;costs maids*10+1;", "text()", "force(1)", "stay(3, 1)", "maid(0, 9, 3)"};
        runs.runOn(maids, "morning(1, 1) = 1", "maid(0, 0, 2)", "maid(0, 0, 4)", "morning(1, 1) = 1", "set(5, 1, 3)", "morning(1, 1) = 22", "set(5, 2, 3)",
            "maid(0, 0, 3)", "morning(1, 1) = 124");
    }

    /** "beside: the ROOM to which she goes (of does, costs: 0)" */
    private static void besideIsOfStepsAlone() {
        String[] steps = {"tape: steps beside;does 1;costs 1;", "text()", "force(1)", "maid(0, 0, 6)", "list(0, 7)"};
        runs.runOn(steps, "morning(7, 10) = 6", "morning(8, 10) = 7");
        runs.runOn(steps, "clear(0)", "list(0, 4)", "set(5, 0, 5)", "morning(4, 10) = 5", "morning(5, 10) = 4");
        runs.runOn(steps, "clear(0)", "list(0, 0)", "set(5, 0, 1)", "morning(1, 10) = 1", "morning(2, 10) = 0");
        // to ROOM 6 by 5, to ROOM 7 by 6: the ROOM to which she goes is NEXT, not her AIM
        runs.runOn(steps, "set(5, 0, 5)", "morning(6, 10) = 5", "morning(7, 10) = 6", "morning(14, 10) = 6", "morning(15, 10) = 7");
        runs.run("tape: steps 1;does 2+beside;costs 1;", "text()", "force(1)", "maid(0, 0, 7)", "list(0, 7)", "morning(1, 57) = 7");
        // she has walked to ROOM 7 ahead of it
        runs.run("tape: steps 1;does 2+beside;costs 1+beside;", "text()", "force(1)", "maid(0, 0, 6)", "list(0, 7)", "morning(3, 57) = 7", "stay(7, 1)", "maid(0, 0, 7)", "morning(1, 1) = 1");
    }

    /** "how many other MAIDS are in the ROOM where she is (none on a way)" */
    private static void maidsOnAWayAreNone() {
        String[] made = {"tape: steps 3;does 1+maids;costs 1;", "text()", "force(1)", "maid(0, 0, 0)", "maid(0, 0, 0)", "list(0, 0)", "list(1, 1)"};
        // MAID 1 sets out behind MAID 0 in MINUTE 0, is on a way in MINUTES 1 .. 3, from ROOM 0
        runs.runOn(made, "morning(1, 50) = 7", "morning(2, 50) = 6", "morning(3, 50) = 5");
        // she is on a way to ROOM 0, where MAID 0 works: with her there from MINUTE 4 on (she comes behind her in MINUTE 3)
        runs.runOn(made, "set(5, 1, 1)", "clear(1)", "list(1, 0)", "morning(4, 50) = 5", "morning(4, 11) = 0", "morning(5, 50) = 1");
    }

    /** "TEXT 0, at first THE RULE, is: steps 1 ; does 1 + maids ; costs 1 ;" */
    private static void theRuleAtFirst() {
        runs.run("count(3) = 1", "count(5) = 0", "count(4) = 0", "maid(0, 9, 0)", "list(0, 1)", "morning(1, 10) = 0", "morning(2, 10) = 1");
        runs.run("set(1, 0, 99)", "maid(0, 9, 0)", "list(0, 0)", "morning(1, 50) = 98", "maid(0, 0, 0)", "maid(0, 0, 0)", "maid(0, 0, 0)", "morning(1, 50) = 95");
        runs.run("stay(0, 1)", "maid(0, 9, 0)", "morning(1, 1) = 1", "morning(100, 1) = 100", "maid(0, 0, 0)", "morning(100, 1) = 200");
    }
}
