import java.lang.reflect.Constructor;
import java.lang.reflect.Field;
import java.lang.reflect.Method;
import java.lang.reflect.Modifier;
import java.nio.charset.StandardCharsets;
import java.nio.file.Files;
import java.nio.file.Path;
import java.util.ArrayList;
import java.util.Arrays;
import java.util.List;
import java.util.TreeSet;
import java.util.regex.Pattern;

/** The public face, and what ../shared/LANGUAGE.md lets the program's text be. */
public final class FaceTest {
    private static final Due due = new Due("FaceTest");
    private static final String[] FACE = {
        "int set(int, int, int)", "int stay(int, int)", "int maid(int, int, int)", "int list(int, int)", "int clear(int)",
        "int told(int, int)", "int way(int, int, int)", "int feed(int)", "int text()", "int force(int)", "int master(int)",
        "int free(int, int)", "int longest(int, int)", "int never(int)", "int morning(int, int)", "int best(int, int)",
        "int begin(int, int)", "int home(int)", "int stairs()", "int from(int, int)", "int door(int, int, int)",
        "int film(int, int, int)", "int drawn(int)", "long chance(int, int, int)", "int image()", "int back()", "int count(int)",
        "int sheet(int, int, int)", "int cell(int, int, int)", "int copy(int, int, int, int, int)", "int maids(int, int, int, int)",
        "int taken(int, int)",
    };
    private static final String[] FORBIDDEN = {
        "\\bthrows?\\b", "\\btry\\b", "\\bcatch\\b", "\\bfinally\\b", "\\bsynchronized\\b", "\\bassert\\b", "->", "::", "\\bimport\\b",
        "\\bpackage\\b", "\\bvar\\b", "\\bdouble\\b", "\\bfloat\\b", "\\bequals\\b", "\\bhashCode\\b", "\\btoString\\b", "Exact\\b",
        "\\bSystem\\.(?!arraycopy\\b)", "\\bThread\\b", "\\bRandom\\b", "\"\\s*\\+", "\\+\\s*\"", "\\bstatic\\s*\\{", "\\bprotected\\b",
    };

    public static void main(String[] args) throws Exception {
        members();
        namesOfPrivateMethods();
        statics();
        words();
        headings();
        faceOfTheDocument();
        due.end();
    }

    private static void members() {
        List<String> got = new ArrayList<>();
        for (Method m : NeverSeen.class.getDeclaredMethods()) {
            if (!Modifier.isPrivate(m.getModifiers())) {
                String row = Arrays.toString(m.getParameterTypes());
                got.add(m.getReturnType() + " " + m.getName() + "(" + row.substring(1, row.length() - 1) + ")");
                due.is(m.getName() + " is public and no static", m.getModifiers(), Modifier.PUBLIC);
            }
        }
        for (String one : FACE) {
            due.is("has " + one, got.contains(one) ? 1 : 0, 1);
        }
        due.is("public methods", got.size(), FACE.length);
        Constructor<?>[] made = NeverSeen.class.getDeclaredConstructors();
        due.is("constructors", made.length, 1);
        due.is("public constructor of nothing", made[0].getModifiers() * 10 + made[0].getParameterCount(), 10 * Modifier.PUBLIC);
        List<String> constants = new ArrayList<>();
        for (Field f : NeverSeen.class.getDeclaredFields()) {
            if (!Modifier.isPrivate(f.getModifiers())) {
                constants.add(f.getType() + " " + f.getName());
                due.is(f.getName(), f.getModifiers(), Modifier.PUBLIC | Modifier.STATIC | Modifier.FINAL);
            }
        }
        due.is("constants", constants.equals(List.of("int NONE", "int BAD", "int STATE", "int FULL", "long NO")) ? 1 : 0, 1);
        due.is("the class", NeverSeen.class.getModifiers(), Modifier.PUBLIC | Modifier.FINAL);
    }

    private static void namesOfPrivateMethods() {
        TreeSet<String> face = new TreeSet<>();
        for (String one : FACE) {
            face.add(one.substring(one.indexOf(' ') + 1, one.indexOf('(')));
        }
        for (Method m : NeverSeen.class.getDeclaredMethods()) {
            if (Modifier.isPrivate(m.getModifiers())) {
                due.is("name of " + m, face.contains(m.getName()) ? 1 : 0, 0);
            }
        }
        for (Class<?> inside : NeverSeen.class.getDeclaredClasses()) {
            due.is(inside + " is static", inside.getModifiers() & Modifier.STATIC, Modifier.STATIC);
            due.is(inside + " isn't public", inside.getModifiers() & (Modifier.PUBLIC | Modifier.PROTECTED), 0);
            for (Method m : inside.getDeclaredMethods()) {
                due.is("name of " + m, face.contains(m.getName()) ? 1 : 0, 0);
            }
        }
        due.is("some twelve classes", NeverSeen.class.getDeclaredClasses().length < 12 ? 1 : 0, 1);
    }

    private static void statics() {
        List<Class<?>> all = new ArrayList<>(Arrays.asList(NeverSeen.class.getDeclaredClasses()));
        all.add(NeverSeen.class);
        for (Class<?> c : all) {
            int own = 0;
            for (Field f : c.getDeclaredFields()) {
                if (Modifier.isStatic(f.getModifiers())) {
                    due.is(f + " is final", f.getModifiers() & Modifier.FINAL, Modifier.FINAL);
                } else {
                    own++;
                }
            }
            due.is("some twenty fields of " + c, own <= 20 ? 1 : 0, 1);
        }
    }

    private static void words() throws Exception {
        byte[] bytes = Files.readAllBytes(Path.of("src/main/java/NeverSeen.java"));
        for (byte b : bytes) {
            if (b < 1) {
                due.is("a sign of the program", b, 1);
            }
        }
        String text = new String(bytes, StandardCharsets.ISO_8859_1);
        String code = text.replaceAll("(?s)/\\*.*?\\*/", "").replaceAll("//[^\n]*", "");
        for (String word : FORBIDDEN) {
            due.is("the program has " + word, Pattern.compile(word).matcher(code).find() ? 1 : 0, 0);
        }
    }

    /** "Ahead of the calls .. the interface says: ---- ..": ahead of the first of them, behind the last of those ahead. */
    private static void headings() throws Exception {
        String[][] told = {
            {"public NeverSeen(", "---- the house, maids", "public int set("}, {"public int way(", "---- texts", "public int feed("},
            {"public int force(", "---- the master", "public int master("}, {"public int never(", "---- mornings", "public int morning("},
            {"public int morning(", "---- what would be best", "public int best("},
            {"public int stairs(", "---- mornings that were told", "public int from("}, {"public int count(", "---- the host", "public int sheet("},
        };
        String text = Files.readString(Path.of("src/main/java/NeverSeen.java"));
        for (String[] one : told) {
            int at = text.indexOf("// " + one[1] + "\n");
            due.is(one[1], text.indexOf(one[0]) >= 0 && text.indexOf(one[0]) < at && at < text.indexOf(one[2]) ? 1 : 0, 1);
        }
    }

    /** Each row of 'The public face' stands in the program as it stands there, in the same order. */
    private static void faceOfTheDocument() throws Exception {
        String text = Files.readString(Path.of("src/main/java/NeverSeen.java"));
        int at = 0;
        int rows = 0;
        boolean inside = false;
        for (String line : Files.readAllLines(Path.of("../shared/DOC.md"))) {
            if (line.startsWith("```")) {
                inside = line.equals("```java");
            } else if (inside && line.contains("public")) {
                String row = line.trim().replace(");", ")");
                at = text.indexOf(row, at);
                due.is("the program has: " + row, at >= 0 ? 1 : 0, 1);
                at = Math.max(at, 0);
                rows++;
            }
        }
        due.is("rows of the face", rows, FACE.length + 4);
    }
}
