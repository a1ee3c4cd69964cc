import java.io.IOException;
import java.nio.file.Files;
import java.nio.file.Path;
import java.util.List;

/**
 * CardFlash.java keeps to the rules of LANGUAGE.md that its text can show. To show that the test
 * would see a break, each rule is broken once in a text that must be refused by the rule's number.
 */
public final class LanguageTest {
    private static final Path SOURCE = Path.of("src/main/java/CardFlash.java");
    private static final Checks CHECKS = new Checks();

    public static void main(String[] args) throws IOException {
        List<String> breaks = Language.breaks(Files.readString(SOURCE));
        CHECKS.holds("CardFlash.java keeps to LANGUAGE.md: " + breaks, breaks.isEmpty());
        keeps("final int[] a = new int[16]; int f(int i) { return i >= 0 && i < a.length ? a[i] : (int) 3L; }");
        classes();
        types();
        library();
        arrays();
        statics();
        words();
        loops();
        sizes();
        CHECKS.end();
    }

    private static void classes() throws IOException {
        isRefused(1, "package p; public final class CardFlash { }");
        isRefused(1, "public final class CardFlash { } class Other { }");
        isRefused(1, "public interface CardFlash { }");
        bodyIsRefused(1, "private static final class Inner { }");
        bodyIsRefused(1, "private enum Kind { A }");
        bodyIsRefused(1, "private record Pair(int a, int b) { }");
    }

    private static void types() throws IOException {
        bodyIsRefused(2, "private float f;");
        bodyIsRefused(2, "private double[] f;");
        bodyIsRefused(2, "private int[][] f;");
        bodyIsRefused(2, "private Object f;");
        bodyIsRefused(2, "String f() { return f(); }");
        bodyIsRefused(2, "void f() { var a = 1; }");
        bodyIsRefused(2, "int f() { return (int) 1.5; }");
    }

    private static void library() throws IOException {
        isRefused(3, "import java.util.List; public final class CardFlash { }");
        bodyIsRefused(3, "int f(int a) { return Math.abs(a); }");
        bodyIsRefused(3, "int f() { return Integer.MAX_VALUE; }");
        bodyIsRefused(3, "int f() { return hashCode(); }");
        bodyIsRefused(3, "int f() { return System.identityHashCode(this); }");
    }

    private static void arrays() throws IOException {
        bodyIsRefused(4, "int f() { return new int[3].length; }");
        bodyIsRefused(4, "private int[] a = new int[3];");
        bodyIsRefused(4, "private final int[] a = new int[0];");
        bodyIsRefused(4, "private final int[] a = {1, 2};");
        bodyIsRefused(4, "private final int[] a = new int[1 + 1];");
        bodyIsRefused(4, "private final int[] a = new int[3]; int[] f() { return a; }");
        bodyIsRefused(4, "private final int[] a = new int[3]; void f() { int[] b = a; }");
        bodyIsRefused(4, "private final int[] a = new int[3]; boolean f() { return a == null; }");
        bodyIsRefused(4, "void f() { new CardFlash(); }");
    }

    private static void statics() throws IOException {
        bodyIsRefused(5, "private static int count;");
        bodyIsRefused(5, "private static final boolean YES = true;");
        bodyIsRefused(5, "private static final int[] A = new int[3];");
        bodyIsRefused(5, "private static final int A = f(); static int f() { return 1; }");
        bodyIsRefused(5, "static { }");
    }

    private static void words() throws IOException {
        bodyIsRefused(6, "void f() { throw new Error(); }");
        bodyIsRefused(6, "void f() { try { f(); } finally { } }");
        bodyIsRefused(6, "void f() { synchronized (this) { } }");
        bodyIsRefused(6, "synchronized void f() { }");
        bodyIsRefused(6, "void f() { assert true; }");
        bodyIsRefused(6, "boolean f(Object a) { return a instanceof CardFlash; }");
        bodyIsRefused(6, "void f(Runnable a) { f(() -> { }); }");
        bodyIsRefused(6, "void f(Runnable a) { f(this::notify); }");
        bodyIsRefused(6, "void f(Object a) { f((CardFlash) a); }");
        bodyIsRefused(7, "int f(int a) { return 1 / a; }");
        bodyIsRefused(7, "int f(int a) { a %= a; return a; }");
    }

    private static void loops() throws IOException {
        keeps("static final int N = 3; int f() { int s = 0; for (int i = 0; i < N; i++) { s += i; } return s; }");
        bodyIsRefused(8, "void f() { while (true) { } }");
        bodyIsRefused(8, "void f() { do { } while (true); }");
        bodyIsRefused(8, "void f() { for (;;) { } }");
        bodyIsRefused(8, "void f(int n) { for (int i = 0; i < n; i++) { n++; } }");
        bodyIsRefused(8, "void f() { for (int i = 0; i < 3; i++) { i = 0; } }");
        bodyIsRefused(8, "void f() { for (int i = 0; i < 3; i++) { i -= 1; } }");
        bodyIsRefused(8, "void f() { for (int i = 0; i < 3; i++) { i--; } }");
        bodyIsRefused(8, "void f() { f(); }");
        bodyIsRefused(8, "void f() { g(); } void g() { h(); } void h() { f(); }");
    }

    private static void sizes() throws IOException {
        bodyIsRefused(10, "void f(int a, int b, int c, int d, int e, int g, int h, int i) { }");
        bodyIsRefused(10, "int f(int a) { return a; } int g() { return f(1 + f(1)); }");
        bodyIsRefused(10, "void f() {" + "\n".repeat(60) + "}");
        bodyIsRefused(10, "void a() { b(); } void b() { c(); } void c() { d(); } void d() { e(); }"
                + " void e() { f(); } void f() { g(); } void g() { }");
        keeps("void a() { b(); } void b() { c(); } void c() { d(); } void d() { e(); } void e() { f(); } void f() { }");
        StringBuilder fields = new StringBuilder();
        for (int i = 0; i < 41; i++) {
            fields.append("int f").append(i).append("; ");
        }
        bodyIsRefused(10, fields.toString());
    }

    private static void keeps(String body) throws IOException {
        List<String> breaks = Language.breaks(inClass(body));
        CHECKS.holds("'" + body + "' keeps to the rules: " + breaks, breaks.isEmpty());
    }

    private static void bodyIsRefused(int rule, String body) throws IOException {
        isRefused(rule, inClass(body));
    }

    private static String inClass(String body) {
        return "public final class CardFlash { " + body + " }";
    }

    private static void isRefused(int rule, String source) throws IOException {
        List<String> breaks = Language.breaks(source);
        CHECKS.holds("rule " + rule + " refuses '" + source + "': " + breaks,
                breaks.stream().anyMatch(text -> text.startsWith("rule " + rule + ",")));
    }
}
