import java.io.IOException;
import java.nio.file.Files;
import java.nio.file.Path;
import java.util.List;

/**
 * The class keeps to ../shared/LANGUAGE.md, and Language finds what does not: it is tried with texts of the class to
 * which one thing was added that a rule forbids. Run it in the project's folder.
 */
public final class LanguageTest {
    private static final Check CHECK = new Check();
    private static final Path SOURCE = Path.of("src/main/java/CoilWheels.java");

    private final String source;
    private final String document;

    private LanguageTest() throws IOException {
        source = Files.readString(SOURCE);
        document = Files.readString(Path.of(System.getenv().getOrDefault("SHARED", "../shared"), "DOC.md"));
    }

    public static void main(String[] args) throws IOException {
        LanguageTest test = new LanguageTest();
        CHECK.same("against the rules", String.join("\n", Language.faults(test.source, test.document)), "");
        test.face();
        test.classes();
        test.types();
        test.library();
        test.statics();
        test.words();
        test.runs();
        test.sizes();
        test.made();
        test.allowed();
        CHECK.finish();
    }

    private void face() throws IOException {
        with(1, "int spoiled() { return 0; }");
        with(1, "public int spoiled() { return 0; }");
        with(1, "protected void spoiled() { }");
        with(1, "public int spoiled;");
        with(1, "int spoiled;");
        with(1, "public static final int SPOILED = 1;");
        with(1, "CoilWheels(int n) { this(); }");
        with(1, "private static int feed(int a, int b) { return a + b; }");
        with(1, "private static final class Spoiled { int torn() { return 0; } }");
        with(1, "public static final class Spoiled { }");
        changed(1, "public final class CoilWheels", "public class CoilWheels");
        changed(1, "STATE = -2", "STATE = -5");
        changed(1, "public long mean(int v", "public int mean(int v", "return inLowestTerms", "return (int) inLowestTerms");
        changed(1, "public int torn()", "private int torn()");
        changed(1, "public int turn(int r, int v)", "public int turn(int r, short v)");
        changed(1, "public int rule(int what)", "public final int rule(int what)");
        spoiled(1, source + "final class Spoiled { }\n");
        spoiled(1, "package spoiled;\n" + source);
    }

    private void classes() throws IOException {
        with(2, "private final class Spoiled { }");
        with(2, "private interface Sum { int of(int a); } private static int spoiled() { Sum s = a -> a; return s.of(1); }");
        with(2, "private interface Sum { int of(int a, int b); } private static int spoiled() { Sum s = Math::max; return s.of(1, 2); }");
        with(2, "private static void spoiled() { final class Spoiled { } }");
        with(2, "private enum Spoiled { ONE; private final double x = 0.5; }");
    }

    private void types() throws IOException {
        with(3, "private int[][][] spoiled;");
        with(3, "private String[] spoiled;");
        with(3, "private Object spoiled;");
        with(3, "private Long spoiled;");
        with(3, "private java.util.Map<Integer, Integer> spoiled;");
        with(3, "private java.util.List<String> spoiled;");
        with(3, "private static Number spoiled() { return 1; }");
        with(3, "private static int spoiled(CharSequence text) { return 0; }");
        with(3, "private static void spoiled() { Object x = null; }");
    }

    private void library() throws IOException {
        with(4, "private static int spoiled() { return Math.addExact(1, 2); }");
        with(4, "private static double spoiled() { return Math.sqrt(2); }");
        with(4, "private static int spoiled() { return Integer.parseInt(\"1\"); }");
        with(4, "private static long spoiled() { return System.nanoTime(); }");
        with(4, "private static void spoiled() { System.out.println(); }");
        with(4, "private static String spoiled(String s) { return s.trim(); }");
        with(4, "private static int spoiled(String s) { return s.hashCode(); }");
        with(4, "private static void spoiled(StringBuilder s) { s.append(1L); }");
        with(4, "private static void spoiled(java.util.ArrayList<Integer> all) { all.addAll(all); }");
        with(4, "private static int spoiled(int[] all) { return java.util.Arrays.hashCode(all); }");
        with(4, "private static char spoiled() { return (char) 233 == '\u00e9' ? 'a' : 'b'; }");
        with(4, "private static String spoiled() { return \"\\0\"; }");
        with(4, "@Deprecated private static void spoiled() { }");
        with(4, "private static boolean spoiled(Rotor a, Rotor b) { return a.equals(b); }");
        spoiled(4, "import java.util.Random;\n" + source);
    }

    private void statics() throws IOException {
        with(5, "private static int spoiled;");
        with(5, "private static final int[] SPOILED = new int[3];");
        with(5, "private static final double SPOILED = 0.5;");
        with(5, "private static final int SPOILED = power(2, 3) > 7 ? 1 : 2;");
        with(5, "private static final int SPOILED; static { SPOILED = 1; }");
        with(5, "private int spoiled; { spoiled = 1; }");
        with(5, "private static final Rotor SPOILED = null;");
    }

    private void words() throws IOException {
        with(6, "private static void spoiled() { assert true; }");
        with(6, "private void spoiled() { synchronized (tape) { tape.length = 0; } }");
        with(6, "private static int spoiled() { try { return 1; } finally { } }");
        with(6, "private static int spoiled() { throw null; }");
        with(6, "private static int spoiled() throws RuntimeException { return 1; }");
        with(6, "private static boolean spoiled(String a, String b) { return a == b; }");
        with(6, "private static boolean spoiled(java.util.List<Integer> a) { return a.get(0) != a.get(1); }");
        with(6, "private static class Base { } private static final class More extends Base { }"
            + " private static More spoiled(Base b) { return (More) b; }");
    }

    private void runs() throws IOException {
        with(7, "private static int spoiled(int a, int b) { return a / b; }");
        with(7, "private static int spoiled(int a, int b) { return a % b; }");
        with(7, "private static int spoiled(int a, int b) { a /= b; return a; }");
        with(7, "private static int spoiled(int a) { return a % 0; }");
        with(8, "private static int spoiled(int a) { return a > 0 ? spoiled(a - 1) : 0; }");
        with(8, "private static int spoil(int a) { return a > 0 ? spoiled(a - 1) : 0; } private static int spoiled(int a) { return spoil(a); }");
        with(9, "private static int spoiled(int a) { while (true) { a++; if (a > 9) { return a; } } }");
        with(9, "private static int spoiled(int a) { for (;;) { a++; if (a > 9) { return a; } } }");
        with(9, "private static int spoiled(int a) { do { a = a + a; } while (a > 0); return a; }");
        with(9, "private static int spoiled(int a, int b) { while (a < b || b != 7) { a++; } return a; }");
        with(10, "private static String spoiled(String a) { return a + 1; }");
        with(10, "private static String spoiled(String a) { a += 1; return a; }");
        with(10, "private static int spoiled(String a) { switch (a) { case \"a\": return 1; default: return 2; } }");
    }

    private void sizes() throws IOException {
        with(11, "private static int spoiled(int a, int b, int c, int d, int e, int f, int g, int h) { return 0; }");
        with(11, "private static int spoiled(int a) {\n" + "a++;\n".repeat(60) + "return a; }");
        StringBuilder deep = new StringBuilder("private static void deep0() { }");
        StringBuilder classes = new StringBuilder();
        StringBuilder fields = new StringBuilder();
        for (int i = 1; i <= 20; i++) {
            deep.append(i <= 8 ? "private static void deep" + i + "() { deep" + (i - 1) + "(); }" : "");
            classes.append(i <= 8 ? "private static final class Spoiled" + i + " { }" : "");
            fields.append("private int spoiled").append(i).append(";");
        }
        with(11, deep.toString());
        with(11, classes.toString());
        with(11, fields.toString());
    }

    private void made() throws IOException {
        with(12, "private static Rotor spoiled() { return new Rotor(); }");
        with(12, "private static int[] spoiled() { return new int[3]; }");
        with(12, "private static int[] spoiled() { int[] a = {1, 2}; return a; }");
        with(12, "private static class Base { Base() { go(); } void go() { } }");
        with(12, "private static final class Base { Base self; Base() { self = this; } }");
    }

    /** What the rules leave is not told as a fault. */
    private void allowed() throws IOException {
        String[] members = {"private static final int[] ROW = {1, 2, 3};", "private static final String WORD = \"word\";",
            "private static final class Pair { final int a; Pair(int a) { this.a = a; } }",
            "private enum Side { LEFT, RIGHT; int by; } private static int by(Side s) { switch (s) { case LEFT: return 1; default: return 2; } }",
            "private static long most(long a, long b) { return Math.max(a, Long.bitCount(b)); }",
            "private static int half(int a, int b) { return b != 0 ? a / b : a / 2; }",
            "private static int[] same(int[] a) { return a.clone(); }",
            "private static boolean same(String a, String b) { return a.equals(b) && a.charAt(0) == b.charAt(0); }",
            "private static int sum(java.util.List<Integer> all) { int s = 0; for (int i = 0; i < all.size(); i++) { s += all.get(i); } return s; }",
            "private int[][] board;"};
        for (String member : members) {
            CHECK.same(member, Language.faults(added(member), document).toString(), "[]");
        }
    }

    private String added(String member) {
        int end = source.lastIndexOf('}');
        return source.substring(0, end) + member + "\n" + source.substring(end);
    }

    private void with(int rule, String member) throws IOException {
        spoiled(rule, added(member));
    }

    /** Each second text in place of the one ahead of it. */
    private void changed(int rule, String... texts) throws IOException {
        String changed = source;
        for (int i = 0; i < texts.length; i += 2) {
            CHECK.due("the class has " + texts[i], changed.contains(texts[i]) ? 1 : 0, 1);
            changed = changed.replace(texts[i], texts[i + 1]);
        }
        spoiled(rule, changed);
    }

    /** Language tells of it, and of this rule alone. */
    private void spoiled(int rule, String text) throws IOException {
        List<String> faults = Language.faults(text, document);
        boolean told = !faults.isEmpty() && faults.stream().allMatch(f -> f.startsWith(rule + " "));
        String change = text.startsWith(source.substring(0, source.lastIndexOf('}')))
            ? text.substring(source.lastIndexOf('}')) : "a changed line";
        CHECK.same("rule " + rule + " by " + change.strip(), told ? "" : faults.toString(), "");
        CHECK.due("rule " + rule + " is told by " + change.strip(), faults.isEmpty() ? 0 : 1, 1);
    }
}
