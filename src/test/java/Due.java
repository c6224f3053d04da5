/** Compares answers with those that are due, tells the wrong ones, ends with exit code 1 if there was one. */
final class Due {
    private final String name;
    private int looked = 0;
    private int wrong = 0;

    Due(String name) {
        this.name = name;
    }

    void is(String call, long got, long want) {
        looked++;
        if (got != want) {
            wrong++;
            System.out.println(name + ": " + call + " answered " + got + ", due is " + want);
        }
    }

    void end() {
        System.out.println(name + ": " + looked + " answers, " + wrong + " wrong");
        if (wrong != 0) {
            System.exit(1);
        }
    }

    static void feed(NeverSeen x, String text) {
        for (int i = 0; i < text.length(); i++) {
            x.feed(text.charAt(i));
        }
    }

    /** A new house whose RULE is a text of its own. */
    static NeverSeen withRule(String text) {
        NeverSeen x = new NeverSeen();
        feed(x, text);
        x.force(x.text());
        return x;
    }

    static void row(NeverSeen x, int sheet, int sort, int... values) {
        x.sheet(sheet, sort, values.length);
        for (int i = 0; i < values.length; i++) {
            x.cell(sheet, i, values[i]);
        }
    }
}
