import java.io.IOException;
import java.nio.file.Files;
import java.nio.file.Path;
import java.util.List;

/** The class keeps to LANGUAGE.md, as LanguageRules sees it; and LanguageRules does see what is against a rule. */
public final class LanguageTest {
    private static final Path SOURCE = Path.of("src/main/java/SymbolicForms.java");

    // The number of a rule and the members of a class that is against it.
    private static final String[][] AGAINST = {
        {"1", "int n;"},
        {"1", "private void clear() {} public int clear(int x) { return x; }"},
        {"1", "void go() {}"},
        {"1", "protected int go() { return 1; }"},
        {"1", "private static class Other {}"},
        {"1", "private enum Other {}"},
        {"1", "private void go() { class Other {} }"},
        {"2", "private double d;"},
        {"2", "private void go(float f) {}"},
        {"2", "private String s;"},
        {"2", "private int[][] a = new int[2][2];"},
        {"2", "private Integer go() { return 1; }"},
        {"2", "private void go() { for (Object o = 1; ; ) {} }"},
        {"2", "private int go() { return \"text\".length(); }"},
        {"2", "private int go() { return (int) 1.5; }"},
        {"3", "private int go(int x) { return Math.abs(x); }"},
        {"3", "private int go() { return Integer.MAX_VALUE; }"},
        {"3", "private int go() { return java.lang.Math.abs(1); }"},
        {"3", "private int go() { return hashCode(); }"},
        {"3", "private int[] a = new int[3]; private int go() { return a.hashCode(); }"},
        {"3", "private void go() { System.out.println(); }"},
        {"3", "@Deprecated private int go() { return 1; }"},
        {"4", "private void go() { int[] a = new int[3]; }"},
        {"4", "private int[] a = {1, 2};"},
        {"4", "private int[] a = new int[0];"},
        {"4", "private int n = 3; private int[] a = new int[n];"},
        {"4", "private int[] a = new int[3]; private int[] go() { return a; }"},
        {"4", "private int[] a = new int[3]; private void go(int[] b) { a = b; }"},
        {"4", "private int[] a = new int[3]; private void go(int[] b) { this.a = b; }"},
        {"4", "private int[] a = new int[3]; private boolean go(int[] b) { return a == b; }"},
        {"4", "private int[] a = new int[3]; private boolean go() { return a != null; }"},
        {"4", "private void go() { new SymbolicForms(); }"},
        {"5", "private static int n = 1;"},
        {"5", "private static final short N = 1;"},
        {"5", "private static final int[] N = new int[1];"},
        {"5", "private static final int N = go(); private static int go() { return 1; }"},
        {"5", "static { }"},
        {"6", "private void go() { throw null; }"},
        {"6", "private void go() { try { go(); } finally { } }"},
        {"6", "private void go() { synchronized (this) { } }"},
        {"6", "private synchronized void go() { }"},
        {"6", "private void go() throws Exception { }"},
        {"6", "private void go(int x) { assert x > 0; }"},
        {"6", "private boolean go(int[] a) { return a instanceof Object; }"},
        {"6", "private void go() { Runnable r = () -> { }; }"},
        {"6", "private void go() { Runnable r = this::go; }"},
        {"6", "private void go(int[] a) { go((int[]) a); }"},
        {"8", "private void go() { go(); }"},
        {"8", "private void go() { on(); } private void on() { further(); } private void further() { go(); }"},
        {"8", "private void go() { while (true) { } }"},
        {"8", "private void go() { do { } while (true); }"},
        {"8", "private void go() { for (;;) { } }"},
        {"8", "private void go() { for (int i = 0; i < 5; i--) { } }"},
        {"8", "private void go() { for (int i = 5; i > 0; i++) { } }"},
        {"8", "private void go() { for (int i = 0; i != 5; i++) { } }"},
        {"8", "private void go() { for (int i = 0; i < 5; i++) { i = 0; } }"},
        {"8", "private void go() { for (int i = 0; i < 5; i++) { i--; } }"},
        {"8", "private void go() { for (int i = 0; i < i + 1; i++) { } }"},
        {"8", "private void go(int n) { for (int i = 0; i < n; i++) { n++; } }"},
        {"8", "private void go(int[] a) { for (int i = 0; i < a[0]; i++) { } }"},
        {"8", "private int n; private void go() { for (int i = 0; i < n; i++) { on(); } } private void on() { n++; }"},
        {"8", "private int n; private void go() { for (int i = 0; i < more(); i++) { } } "
            + "private int more() { return 9; }"},
        {"10", "private void go(int a, int b, int c, int d, int e, int f, int g, int h) { }"},
        {"10", "private int go(int x) { return on(on(x)); } private int on(int x) { return x; }"},
        {"10", "private int go(int x) { return on(1 + (x > 0 ? on(x) : 0)); } private int on(int x) { return x; }"},
        {"10", "public int go() { return 1;\n" + "\n".repeat(60) + "}"},
        {"10", "public void a() { b(); } private void b() { c(); } private void c() { d(); } private void d() { e(); }"
            + "private void e() { f(); } private void f() { g(); } private void g() { }"},
        {"10", "private int n;".replace("n;", "n" + ", n".repeat(40) + ";")}};

    // The same with a text of its own.
    private static final String[][] TEXTS_AGAINST = {
        {"1", "package some; public final class SymbolicForms { }"},
        {"1", "public final class SymbolicForms { } class Other { }"},
        {"1", "public class SymbolicForms { }"},
        {"1", "final class SymbolicForms { }"},
        {"1", "public final class SymbolicForms implements Cloneable { }"},
        {"1", "public final class SymbolicForms extends Thread { }"},
        {"3", "import java.util.List; public final class SymbolicForms { }"}};

    // At the edge of a rule, but not against it.
    private static final String[] WITHIN = {
        "private void go(int a, int b, int c, int d, int e, int f, int g) { }",
        "public int go() { return 1;\n" + "\n".repeat(58) + "}",
        "public void a() { b(); } private void b() { c(); } private void c() { d(); } private void d() { e(); }"
            + "private void e() { f(); } private void f() { }",
        "private static final int N = 3; private int[] a = new int[N]; private void go(int[] b) { b[0] = a.length; }",
        "private int go(long x) { return (int) x; }",
        "private int n; private void go() { for (int i = n; i >= 0; i--) { on(); } } private void on() { }"};

    private static int wrong = 0;

    private static void report(String text) {
        wrong++;
        System.out.println(text);
    }

    private static String classOf(String members) {
        return "public final class SymbolicForms {\n" + members + "\n}\n";
    }

    private static void checkIsSeen(String rule, String text) throws IOException {
        if (LanguageRules.breachesIn(text).stream().noneMatch(breach -> breach.startsWith("rule " + rule + ","))) {
            report("not seen to be against rule " + rule + ": " + text);
        }
    }

    private static void checkRules() throws IOException {
        for (String[] pair : AGAINST) {
            checkIsSeen(pair[0], classOf(pair[1]));
        }
        for (String[] pair : TEXTS_AGAINST) {
            checkIsSeen(pair[0], pair[1]);
        }
        for (String members : WITHIN) {
            for (String breach : LanguageRules.breachesIn(classOf(members))) {
                report("seen though it is not there, " + breach + ": " + members);
            }
        }
    }

    private static void checkSource() throws IOException {
        List<String> breaches = LanguageRules.breachesIn(Files.readString(SOURCE));
        breaches.forEach(breach -> report(SOURCE + ", " + breach));
    }

    public static void main(String[] args) throws IOException {
        checkRules();
        checkSource();
        System.out.println(wrong == 0 ? "the class keeps to the rules" : wrong + " things are not as due");
        if (wrong != 0) {
            System.exit(1);
        }
    }
}
