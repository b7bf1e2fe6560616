import java.io.IOException;
import java.nio.file.Files;
import java.nio.file.Path;
import java.util.List;

/** The class keeps to the rules of ../shared/LANGUAGE.md, and the check of them notices when one is broken. */
public final class LanguageTest {
    private static final String CLASS = "public final class BoxFilters { private final int[] cells = new int[4]; int n; ";

    private final Check check = new Check();

    public static void main(String[] args) throws IOException {
        LanguageTest language = new LanguageTest();
        language.keeps("BoxFilters.java", Files.readString(Path.of("src/main/java/BoxFilters.java")));
        language.keepsPlainText();
        language.noticesMembersAndTypes();
        language.noticesArrays();
        language.noticesStatements();
        language.noticesLoopsAndCalls();
        language.noticesGreatNumbers();
        language.check.end();
    }

    private void keeps(String what, String source) {
        List<String> broken = LanguageCheck.brokenRules(source);
        broken.forEach(line -> System.out.println(what + ": " + line));
        check.due(what + ": places where a rule is broken", broken.size(), 0);
    }

    private void notices(int rule, String members) {
        noticesIn(rule, CLASS + members + " }");
    }

    private void noticesIn(int rule, String source) {
        boolean noticed = LanguageCheck.brokenRules(source).stream().anyMatch(s -> s.startsWith("rule " + rule + ","));
        check.due("rule " + rule + " is seen to be broken by " + source, noticed ? 1 : 0, 1);
    }

    private void keepsPlainText() {
        String calls = "int f(int a) { return a > 0 ? 9 / a : g(cells); } int g(int[] c) { c[0] += n; return c[1]; } ";
        String loop = "void h() { for (int i = 0; i < 4 && n > 0; i++) { if (cells[i] == 'x') { break; } n--; } }";
        keeps("plain text", CLASS + calls + loop + " }");
    }

    private void noticesMembersAndTypes() {
        noticesIn(1, "package a; " + CLASS + "}");
        noticesIn(1, CLASS + "} class Other { }");
        noticesIn(1, "public class BoxFilters { }");
        noticesIn(1, "public final class BoxFilters extends Thread { }");
        noticesIn(3, "import java.util.List; " + CLASS + "}");
        notices(1, "private static final class Inner { }");
        notices(1, "private enum Inner { }");
        notices(1, "public int sum() { return 0; } private int sum(int a) { return a; }");
        notices(2, "private double d;");
        notices(2, "private String s;");
        notices(2, "private int f() { return (int) 1.5; }");
        notices(2, "private boolean f() { return null != null; }");
        notices(2, "private int f(Object o) { return 1; }");
        notices(2, "private int f() { int a = (int) (float) n; return a; }");
        notices(3, "private int f() { return Math.abs(n); }");
        notices(3, "private int f() { return hashCode(); }");
        notices(5, "private static int s;");
        notices(5, "private static final boolean S = true;");
        notices(5, "private static final int[] S = new int[4];");
        notices(5, "static { }");
    }

    private void noticesArrays() {
        notices(4, "private void f() { int[] a = new int[4]; }");
        notices(4, "private final int[] a = new int[n];");
        notices(4, "private final int[][] a = new int[4][4];");
        notices(4, "private final int[] a = {1, 2};");
        notices(4, "private int[] f() { return cells; }");
        notices(4, "private boolean f(int[] a) { return a == cells; }");
        notices(4, "private void f(int[] a) { cells = a; }");
    }

    private void noticesStatements() {
        notices(6, "private void f() { throw e; }");
        notices(6, "private void f() { try { n = 1; } finally { n = 2; } }");
        notices(6, "private void f() { synchronized (cells) { n = 1; } }");
        notices(6, "private void f() { assert n > 0; }");
        notices(6, "private boolean f() { return n instanceof Integer; }");
        notices(6, "private void f() { g(() -> 1); } private void g(int a) { }");
        notices(6, "private void f() { g(BoxFilters::g); } private void g(int a) { }");
        notices(4, "private void f() { new BoxFilters(); }");
        notices(7, "private int f(int a) { return 9 / a; }");
        notices(7, "private int f(int a) { return 9 % a; }");
        notices(7, "private int f(int a) { return n > 0 ? 9 / a : 0; }");
        notices(7, "private void f(int a) { n /= a; }");
    }

    private void noticesLoopsAndCalls() {
        notices(8, "private void f() { f(); }");
        notices(8, "private void f() { g(); } private void g() { f(); }");
        notices(8, "private void f() { for (;;) { n++; } }");
        notices(8, "private void f() { for (int i = 0; n < 4; i++) { n--; } }");
        notices(8, "private void f() { for (int i = 0; i < 4; n++) { n--; } }");
        notices(8, "private void f() { for (int i = 0; i < 4 || n > 0; i++) { n--; } }");
        notices(8, "private void f() { for (int i = 0; i < 4; i++) { i = 0; } }");
        notices(8, "private void f() { for (int i = 0; i < 4; i++) { i -= 1; } }");
        notices(8, "private void f() { for (int i = 0; i < 4; i++) { cells[i--] = 1; } }");
        notices(8, "private void f() { while (n > 0) { n++; } }");
        notices(8, "private void f() { do { n++; } while (n > 0); }");
        notices(8, "private void f() { for (int cell : cells) { n += cell; } }");
        notices(10, "private int f(int a) { return a; } private int g() { return f(f(1)); }");
        notices(10, "private int f(int a) { return a; } private int g() { return f(1 + f(1)); }");
    }

    private void noticesGreatNumbers() {
        notices(10, "private void f(int a, int b, int c, int d, int e, int g, int h, int i) { }");
        notices(10, "private void f() { n = 1; " + "\n".repeat(60) + "}");
        notices(10, "private void a() { b(); } private void b() { c(); } private void c() { d(); } "
            + "private void d() { e(); } private void e() { f(); } private void f() { g(); } private void g() { }");
        StringBuilder fields = new StringBuilder();
        for (int i = 0; i < 39; i++) {
            fields.append("private int n").append(i).append("; ");
        }
        notices(10, fields.toString());
    }
}
