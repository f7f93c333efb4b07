import java.io.IOException;
import java.nio.file.Files;
import java.nio.file.Path;
import java.util.List;

/** The class keeps to ../shared/LANGUAGE.md, and what looks for that finds sources that do not. */
public final class LanguageTest {
    public static void main(String[] args) throws IOException {
        String source = Files.readString(Path.of("src/main/java/SyntheticChain.java"));
        Due.test("LANGUAGE.md", "A landing outside them is sent back", () -> keepsToAll("the class", source));
        Due.test("LANGUAGE.md", "all fine", LanguageTest::allowed);
        Due.test("LANGUAGE.md 1", "One class", LanguageTest::oneClass);
        Due.test("LANGUAGE.md 2", "Types", LanguageTest::types);
        Due.test("LANGUAGE.md 3", "No class of the Java library", LanguageTest::library);
        Due.test("LANGUAGE.md 4", "Arrays are made in a field's initialiser", LanguageTest::arrays);
        Due.test("LANGUAGE.md 5", "Static fields are compile-time constants of int or long alone.", LanguageTest::statics);
        Due.test("LANGUAGE.md 6", "No throw, try, catch, synchronized, assert, instanceof, lambda, method reference"
            + " or cast of a reference.", LanguageTest::forbiddenWords);
        Due.test("LANGUAGE.md 7", "a divisor before it divides", LanguageTest::divisors);
        Due.test("LANGUAGE.md 8", "No recursion, neither direct nor through other methods.", LanguageTest::recursion);
        Due.test("LANGUAGE.md 8", "Every loop has an end that can be seen from its own lines", LanguageTest::loops);
        Due.test("LANGUAGE.md 10", "Methods stay short", LanguageTest::sizes);
        Due.end();
    }

    private static void keepsToAll(String what, String source) {
        List<String> broken = Language.brokenBy(source);
        Due.is(what + " breaks " + broken, broken.size(), 0);
    }

    /** Each of these members, put into a class that is fine otherwise, must break this rule. */
    private static void breaks(int rule, String... members) {
        for (String member : members) {
            breaksAsSource(rule, inClass(member));
        }
    }

    private static String inClass(String member) {
        return "public final class SyntheticChain {\n"
            + "private static final int SIZE = 4;\nprivate final int[] row = new int[SIZE];\n"
            + member + "\n}\n";
    }

    private static void breaksAsSource(int rule, String source) {
        List<String> broken = Language.brokenBy(source);
        boolean found = broken.stream().anyMatch(what -> what.startsWith("rule " + rule + ","));
        Due.is("rule " + rule + " in " + source + " gave " + broken, found ? 1 : 0, 1);
    }

    private static void allowed() {
        String[] members = {
            "public SyntheticChain() { }",
            "private static final long BIG = 1L << 40;",
            "private static final int TWICE = 2 * SIZE; private final boolean[] flags = new boolean[TWICE + 1];",
            "private void a() { for (int i = 0; i < SIZE; i++) { row[i] = -i; } }",
            "private void a(int n) { for (int i = SIZE - 1; i >= 0 && n > i; i--) { row[i]++; } }",
            "private int a(int n) { return n / SIZE + n % 7; }",
            "private int a(long n) { return (int) (n >>> 3); }",
            "private int a() { return row.length; }",
            "private int a(int i) { this.row[i] = 1; return this.row[i]; }",
            "private int a(int i) { switch (i) { case 0: return 1; default: return i > 2 ? 3 : 4; } }",
            "private int a() { return 1; } private int b() { return a() + row[a()]; }"};
        for (String member : members) {
            keepsToAll(member, inClass(member));
        }
    }

    private static void oneClass() {
        breaksAsSource(1, "package a; public final class SyntheticChain { }");
        breaksAsSource(1, "public final class SyntheticChain { } final class Other { }");
        breaksAsSource(1, "public class SyntheticChain { }");
        breaksAsSource(1, "final class SyntheticChain { }");
        breaksAsSource(1, "public interface SyntheticChain { }");
        breaks(1, "private static class Inner { }", "private enum Inner { A }", "private interface Inner { }",
            "private record Inner(int a) { }", "private void a() { class Inner { } }",
            "int seen;", "protected int seen;", "public int seen;", "int seen() { return 1; }",
            "public int a(int i) { return i; } private int a() { return 1; }");
    }

    private static void types() {
        breaks(2, "private double a;", "private float a;", "private String a;", "private Object a;",
            "private final int[][] a = new int[3][3];", "private Integer a;", "private final String[] a = new String[3];",
            "private int a(double b) { return 1; }", "private double a() { return 1; }", "private String a() { return row; }",
            "private int a() { double b = 1; return 1; }", "private int a() { return \"b\" + 1; }",
            "private int a() { return 1.5 > 1; }", "private int a() { return 1f > 1; }", "private void a(int... b) { Object c; }");
    }

    private static void library() {
        breaksAsSource(3, "import java.util.List; public final class SyntheticChain { }");
        breaksAsSource(3, "public final class SyntheticChain extends Thread { }");
        breaksAsSource(3, "public final class SyntheticChain implements Runnable { }");
        breaks(3, "private int a(int i) { return Math.abs(i); }", "private int a() { return Integer.MAX_VALUE; }",
            "private void a() { System.exit(1); }", "private int a() { return hashCode(); }",
            "private int a() { return this.hashCode(); }", "private int a() { return row.clone()[0]; }",
            "private long a() { return java.lang.System.nanoTime(); }", "@Deprecated private int a;");
    }

    private static void arrays() {
        breaks(4, "private void a() { int[] b = new int[3]; }", "private void a() { row = new int[SIZE]; }",
            "private int size; private final int[] a = new int[size];", "private final int[] a = {1, 2};",
            "private final int[] a = new int[] {1};", "private final int[] a = new int[0];",
            "private final int[][] a = new int[2][2];", "private int[] a() { return row; }",
            "private void a(int[] b) { row = b; }", "private void a(int[] b) { this.row = b; }",
            "private void a(int[] b, int[] c) { b = c; }", "private boolean a(int[] b) { return b == row; }",
            "private boolean a() { return row != null; }", "private boolean a(int[] b) { return row != b; }",
            "private void a() { new SyntheticChain(); }",
            "private void a(int[] b) { later = b; } private int[] later;");
    }

    private static void statics() {
        breaks(5, "private static int a = 1;", "private static final int a;", "private static final boolean A = true;",
            "private static final int[] A = new int[3];", "static { }", "private static final byte A = 1;",
            "private static final int A = b(); private static int b() { return 1; }");
    }

    private static void forbiddenWords() {
        breaks(6, "private void a() { throw null; }", "private void a() { try { } finally { } }",
            "private void a() { try { } catch (Exception e) { } }", "private void a() { synchronized (this) { } }",
            "private synchronized void a() { }", "private void a() { assert true; }",
            "private boolean a() { return row instanceof Object; }", "private void a() { Runnable r = () -> { }; }",
            "private void a() { Runnable r = this::a; }", "private int a() { return ((int[]) row)[0]; }",
            "private void a() throws Exception { }");
    }

    private static void divisors() {
        breaks(7, "private int a(int n) { return 1 / n; }", "private int a(int n) { return 1 % n; }",
            "private int a(int n) { return n / 0; }", "private int a(int n) { return n % (0); }",
            "private int a(int n) { n /= n; return n; }", "private int a(int n) { n %= n; return n; }",
            "private int a() { return SIZE / row[0]; }");
    }

    private static void recursion() {
        breaks(8, "private void a() { a(); }", "private void a() { this.a(); }",
            "private void a() { b(); } private void b() { a(); }",
            "private void a() { b(); } private void b() { c(); } private void c() { b(); }");
    }

    private static void loops() {
        breaks(8, "private void a() { while (true) { } }", "private void a() { do { } while (true); }",
            "private void a() { for (;;) { } }", "private void a() { for (int i = 0; ; i++) { } }",
            "private void a() { for (int i = 0; i < 3; ) { } }", "private void a() { for (int i = 0; i < 3; i--) { } }",
            "private void a() { for (int i = 3; i >= 0; i++) { } }", "private void a(int n) { for (int i = 0; n < 3; i++) { } }",
            "private void a(int n) { for (int i = 0; i < 3 || n < 3; i++) { } }",
            "private void a(int n) { for (int i = 0; i < 3; n++) { } }", "private void a() { for (int i : row) { } }",
            "private void a() { for (int i = 0; i < 3; i++) { i--; } }", "private void a() { for (int i = 0; i < 3; i++) { i = 0; } }",
            "private void a() { for (int i = 0; i < 3; i++) { i -= 1; } }");
    }

    private static void sizes() {
        breaks(10, "private int a(int b, int c, int d, int e, int f, int g, int h, int i) { return 1; }",
            "private int a(int b) { return b; } private int b() { return a(a(1)); }",
            "private int a(int b) { return b; } private int b() { return a(1 + row[a(1)]); }",
            "private void a() {\n" + "\n".repeat(60) + "}",
            "private void a() { b(); } private void b() { c(); } private void c() { d(); } private void d() { e(); }"
                + " private void e() { f(); } private void f() { g(); } private void g() { }");
        StringBuilder fields = new StringBuilder();
        for (int i = 0; i < 40; i++) {
            fields.append("private int f").append(i).append("; ");
        }
        breaks(10, fields.toString());
        keepsToAll("40 fields", inClass(fields.toString().replace("private int f0; ", "")));
        keepsToAll("six deep", inClass("private void a() { b(); } private void b() { c(); } private void c() { d(); }"
            + " private void d() { e(); } private void e() { f(); } private void f() { }"));
    }
}
