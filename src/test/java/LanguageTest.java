import java.io.IOException;
import java.nio.file.Files;
import java.nio.file.Path;
import java.util.List;
import java.util.TreeSet;

/** The class keeps to ../shared/LANGUAGE.md; and LanguageRules, which tells that, finds a breach of each rule. */
public final class LanguageTest {
    private static final Path CLASS = Path.of("src/main/java/FpuStackTrans.java");

    private static final String[][] FILES_OUTSIDE = {
        {"1", "package x; public final class A { }"},
        {"1", "public final class A { } class B { }"},
        {"1", "public interface A { }"},
        {"2", "public final class A<T> { }"},
        {"3", "import java.util.Arrays; public final class A { }"},
        {"3", "public final class A extends B { }"},
        {"3", "public final class A implements B { }"},
    };

    private static final String[][] MEMBERS_OUTSIDE = {
        {"1", "private static class B { }"},
        {"1", "private enum B { }"},
        {"1", "private void f() { class B { } }"},
        {"2", "private float x;"},
        {"2", "private void f() { double x; }"},
        {"2", "private int f() { return (int) 1.5; }"},
        {"2", "private String x;"},
        {"2", "private void f(Integer x) { }"},
        {"2", "private Object f() { return x; }"},
        {"2", "private void f() { var x = 1; }"},
        {"2", "private void f(String[] x) { }"},
        {"2", "private void f(int[][] x) { }"},
        {"2", "private boolean f() { return \"a\" == \"b\"; }"},
        {"2", "private <T> void f() { }"},
        {"3", "private int f(int x) { return Math.abs(x); }"},
        {"3", "private int f() { return Integer.MAX_VALUE; }"},
        {"3", "private int f() { return hashCode(); }"},
        {"3", "private int f() { return super.hashCode(); }"},
        {"3", "private void f() { cells.clone(); }"},
        {"3", "@Deprecated private int x;"},
        {"4", "private int[] late;"},
        {"4", "private final int[] given = {1, 2};"},
        {"4", "private final int[] none = new int[0];"},
        {"4", "private int n = 5; private final int[] some = new int[n];"},
        {"4", "private void f() { int[] x = new int[3]; }"},
        {"4", "private int[] f() { return cells; }"},
        {"4", "private boolean f() { return cells == others; }"},
        {"4", "private boolean f() { return x == null; }"},
        {"4", "private void f() { cells = others; }"},
        {"4", "private void f(int[] x) { x = cells; }"},
        {"4", "private void f() { new A(); }"},
        {"5", "private static int x = 1;"},
        {"5", "private static final int X;"},
        {"5", "private static final boolean X = true;"},
        {"5", "private static final int[] X = new int[3];"},
        {"5", "private int n; private static final int X = n;"},
        {"5", "static { }"},
        {"6", "private void f() { throw x; }"},
        {"6", "private void f() throws E { }"},
        {"6", "private void f() { try { } finally { } }"},
        {"6", "private void f() { synchronized (this) { } }"},
        {"6", "private void f() { assert true; }"},
        {"6", "private boolean f() { return x instanceof A; }"},
        {"6", "private void f() { x = () -> 1; }"},
        {"6", "private void f() { x = A::f; }"},
        {"6", "private int f() { return (A) x; }"},
        {"7", "private int f(int x) { return 1 / x; }"},
        {"7", "private int f(int x) { return 1 % 0; }"},
        {"7", "private void f(int x) { x /= x; }"},
        {"7", "private void f(int x) { x %= 0; }"},
        {"8", "private void f() { while (true) { } }"},
        {"8", "private void f() { do { } while (true); }"},
        {"8", "private void f() { for (;;) { } }"},
        {"8", "private void f() { for (int i = 0; true; i++) { } }"},
        {"8", "private void f() { for (int i = 0; i != 9; i++) { } }"},
        {"8", "private void f() { for (int i = 0; i < 9 || true; i++) { } }"},
        {"8", "private void f() { for (int i = 0; i < 9; i--) { } }"},
        {"8", "private void f() { for (int i = 0; i < 9; i++) { i = 0; } }"},
        {"8", "private void f() { for (int i = 0; i < 9; i++) { i -= 1; } }"},
        {"8", "private void f() { for (int i = 0; i < 9; i++) { i--; } }"},
        {"8", "private void f() { f(); }"},
        {"8", "private void f() { g(); } private void g() { f(); }"},
        {"10", "private void f(int a, int b, int c, int d, int e, int g, int h, int i) { }"},
        {"10", "private int f(int a) { return a; } private int g() { return f(1 + f(2)); }"},
        {"10", "private void f() {" + "\n".repeat(60) + "}"},
        {"10", "private int x" + ", x".repeat(40) + ";"},
        {"10", "void f() { g(); } void g() { h(); } void h() { i(); } void i() { j(); } void j() { k(); }"
            + " void k() { l(); } void l() { }"},
    };

    private static final String[] MEMBERS_INSIDE = {
        "private static final long LONG = -3 * SIZE + 1;",
        "private final boolean[] flags = new boolean[12];",
        "private byte x; private short y; private char z = 'z';",
        "private int f(long x) { return (int) (x / 10 % SIZE); }",
        "private int f(int[] x, int i) { return x[i] + cells.length; } private int g() { return f(cells, 2); }",
        "private void f(int n) { for (int i = 0; (i < n) && this.going; i++) { cells[i]++; } }",
        "private int f(int x) { switch (x) { case 1: return 2; default: return x < 0 ? -x : ~x; } }",
        "private void f(int a, int b, int c, int d, int e, int g, int h) {" + "\n".repeat(59) + "}",
        "private int x" + ", x".repeat(37) + ";",
        "void f() { g(); } void g() { h(); } void h() { i(); } void i() { j(); } void j() { k(); } void k() { }",
    };

    private static int wrong = 0;

    private static void due(String source, String... rules) throws IOException {
        List<String> breaches = LanguageRules.breachesIn(source);
        TreeSet<String> found = new TreeSet<>();
        for (String breach : breaches) {
            found.add(breach.substring(0, breach.indexOf(' ')));
        }
        if (!found.equals(new TreeSet<>(List.of(rules)))) {
            wrong++;
            System.out.println("due are breaches of " + List.of(rules) + ", found " + breaches + " in " + source);
        }
    }

    private static String withMember(String member) {
        return "public final class A { private static final int SIZE = 8; private final int[] cells = new int[SIZE]; "
            + "private final int[] others = new int[5]; " + member + " }";
    }

    private static void theClass() throws IOException {
        for (String breach : LanguageRules.breachesIn(Files.readString(CLASS))) {
            wrong++;
            System.out.println(CLASS + " breaks rule " + breach);
        }
    }

    private static void theRules() throws IOException {
        for (String[] outside : FILES_OUTSIDE) {
            due(outside[1], outside[0]);
        }
        for (String[] outside : MEMBERS_OUTSIDE) {
            due(withMember(outside[1]), outside[0]);
        }
        for (String inside : MEMBERS_INSIDE) {
            due(withMember(inside));
        }
    }

    public static void main(String[] args) throws IOException {
        theClass();
        theRules();
        System.out.println(wrong == 0 ? "the language is as due" : wrong + " sources are not as due");
        if (wrong != 0) {
            System.exit(1);
        }
    }
}
