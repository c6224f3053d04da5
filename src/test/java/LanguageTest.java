import java.nio.charset.StandardCharsets;
import java.nio.file.Files;
import java.nio.file.Path;
import java.util.List;

/** The program breaks none of the rules of ../shared/LANGUAGE.md; and what breaks one is found, rule by rule. */
public final class LanguageTest {
    private static final Due due = new Due("LanguageTest");

    public static void main(String[] args) throws Exception {
        program();
        whatBreaksNone();
        faces();
        classes();
        types();
        library();
        statics();
        words();
        recursion();
        loops();
        sizes();
        making();
        due.end();
    }

    private static void program() throws Exception {
        String text = new String(Files.readAllBytes(Path.of("src/main/java/NeverSeen.java")), StandardCharsets.ISO_8859_1);
        for (String one : Language.brokenBy(text)) {
            due.is("the program breaks rule " + one, 1, 0);
        }
        due.is("the program was read", text.length() > 10000 ? 1 : 0, 1);
    }

    private static void finds(int rule, String text) throws Exception {
        List<String> broken = Language.brokenBy(text);
        boolean found = false;
        for (String one : broken) {
            found |= one.startsWith(rule + " ") || one.startsWith(rule + ":");
        }
        due.is("rule " + rule + " is broken by " + text + " (found: " + broken + ")", found ? 1 : 0, 1);
    }

    private static void breaks(int rule, String... members) throws Exception {
        for (String member : members) {
            finds(rule, "public final class NeverSeen { " + member + " }");
        }
    }

    /** As a statement of a method. */
    private static void says(int rule, String... statements) throws Exception {
        for (String statement : statements) {
            breaks(rule, "private int f = 1; private final int[] row = new int[9]; public int g(int a, int b) { " + statement + " return f; }");
        }
    }

    private static void whatBreaksNone() throws Exception {
        String[] fine = {
            "public static final int A = 1; private static final int[] ROW = {1, 2}; private int f = 0; public int g(int i) { return i >= 0 && i < ROW.length ? ROW[i] : f; }",
            "private static final class P { private final int[] r = new int[3]; int n() { return r.length; } } private final P p = new P(); public int h() { return p.n(); }",
            "public int g(int n) { int s = 0; for (int i = 0; i < n; i++) { s += i; } while (s > 0 && n < 5) { s--; } return Math.max(s, (byte) n); }",
            "public int g(int n) { return down(n, 0); } private static int down(int n, int deep) { return deep > 9 ? n : down(n, deep + 1); }",
        };
        for (String members : fine) {
            due.is("nothing is broken by " + members, Language.brokenBy("public final class NeverSeen { " + members + " }").size(), 0);
        }
    }

    private static void faces() throws Exception {
        finds(1, "package a; public final class NeverSeen { }");
        finds(1, "public class NeverSeen { }");
        finds(1, "public final class NeverSeen { } class Other { }");
        breaks(1, "int seen = 0;", "void seen() { }", "protected int f = 0;", "public int a() { return 0; } private int a(int b) { return b; }", "public static final class P { }");
    }

    private static void classes() throws Exception {
        breaks(2, "private final class P { }", "public int g() { class P { } return 0; }", "private final Object o = new Object() { };");
        breaks(2, "private final Runnable r = () -> { };", "private final Runnable r = NeverSeen::new;");
    }

    private static void types() throws Exception {
        breaks(3, "private int[][][] f = null;", "private String[][] f = null;", "private double f = 0;", "private float[] f = null;", "private Object f = null;", "private java.util.Map f = null;");
        says(3, "a = (int) (a * 0.5);");
    }

    private static void library() throws Exception {
        finds(4, "import java.util.Random; public final class NeverSeen { }");
        says(4, "long t = System.nanoTime();", "System.exit(1);", "a = Math.addExact(a, b);", "a = (int) Math.random();", "a = new java.util.Random().nextInt();", "a = \"x\".lastIndexOf('x');");
        breaks(4, "private static final char C = '\\u00e9';", "private static final String S = \"\\0\";");
        finds(4, "public final class NeverSeen { } // \u00e9");
    }

    private static void statics() throws Exception {
        breaks(5, "private static int f = 0;", "private static final int[] R = new int[4];", "private static final long[][] R = {{1}};", "private static final short S = 1;", "static { }");
        breaks(5, "private static final int[] R = {1}; public void g() { R[0] = 2; }", "private static final int[] R = {1}; public void g() { R[0]++; }",
            "private static final int[] R = {1}; public void g() { R[0] += 2; }", "private static final int[] R = {1}; public void g() { java.util.Arrays.fill(R, 2); }");
    }

    private static void words() throws Exception {
        says(6, "if (a > b) { throw new IllegalArgumentException(); }", "try { a++; } finally { b++; }", "synchronized (this) { a++; }", "assert a > b;", "a = \"x\".hashCode();", "a = this.toString().length();", "if (\"x\" == \"y\") { a++; }");
        breaks(6, "public String toString() { return null; }", "public void g() throws Exception { }", "private static final class P { } public void g(java.util.List l) { P p = (P) l.get(0); }");
        says(10, "String s = \"a\" + a;", "String s = \"a\"; s += 'b';");
    }

    private static void recursion() throws Exception {
        breaks(8, "public int g(int n) { return g(n - 1); }", "private int h() { return k(); } private int k() { return h(); }");
    }

    private static void loops() throws Exception {
        says(9, "while (a != b) { a++; }", "while (true) { if (a++ > b) { break; } }", "for (;;) { if (a++ > b) { break; } }", "while (a < b) { f++; }", "do { a++; } while (a != 0);", "while (a < b || f > 0) { a++; }", "for (int i = 0; i < a; b++) { f++; }");
    }

    private static void sizes() throws Exception {
        breaks(11, "public void g(int a, int b, int c, int d, int e, int f, int g, int h) { }", "public void g() {" + "\n".repeat(60) + "}", "private int a" + String.join("; private int a", "0123456789abcdefghijkl".split("")) + ";",
            "private static final class P" + String.join(" { } private static final class P", "0123456789ab".split("")) + " { }");
        StringBuilder chain = new StringBuilder("public int a() { return b(); }");
        for (char c = 'b'; c < 'i'; c++) {
            chain.append(" private int " + c + "() { return " + (char) (c + 1) + "(); }");
        }
        breaks(11, chain + " private int i() { return 0; }");
    }

    private static void making() throws Exception {
        says(12, "int[] r = new int[4];", "StringBuilder s = new StringBuilder();");
        breaks(12, "private static final class P { P(NeverSeen x) { } } private final P p; public NeverSeen() { p = new P(this); }", "private static final class P { P(NeverSeen x) { } } private final P p = new P(this);", "{ }");
    }
}
