import java.io.IOException;
import java.nio.file.Files;
import java.nio.file.Path;
import java.util.List;

/** The class against the rules of LANGUAGE.md, and for each rule a class that breaks it, so that it is seen to be held. */
public final class LanguageTest {
    private static int wrong;

    public static void main(String[] args) throws IOException {
        String ours = Files.readString(Path.of("src/main/java/ClaySurvey.java"));
        for (String fault : Language.faults("ClaySurvey", ours, "Profile")) {
            wrong++;
            System.out.println("rule " + fault);
        }
        within();
        members();
        types();
        library();
        refusals();
        loopsAndSizes();
        System.out.println(wrong == 0 ? "the language is kept" : wrong + " places break the language");
        System.exit(wrong == 0 ? 0 : 1);
    }

    /** A class with these members breaks this rule alone; none with the rule -1. */
    private static void breaks(int rule, String members) throws IOException {
        source(rule, "import java.util.*; public final class A { " + members + " }");
    }

    private static void source(int rule, String source) throws IOException {
        List<String> faults = Language.faults("A", source, "B");
        boolean isSeen = rule < 0 ? faults.isEmpty() : !faults.isEmpty();
        for (String fault : faults) {
            isSeen &= fault.startsWith(rule + ": ");
        }
        if (!isSeen) {
            wrong++;
            System.out.println("due is rule " + rule + ", told is " + faults + ", of " + source);
        }
    }

    private static void within() throws IOException {
        breaks(-1, "private final int[] row = new int[9]; public int a() { return Math.max(row[0], 1) / 2; }");
        breaks(-1, "private static final int B = 3; private static final int[] C = {1, 2}; "
                + "private final int[][] rows = new int[B * 2][4];");
        breaks(-1, "private static final class B { int c; B() { c = 1; } } private final ArrayList<B> list = "
                + "new ArrayList<B>(); public int a() { list.add(new B()); return list.size(); }");
        breaks(-1, "public int a(int b) throws IllegalArgumentException { need(b); return b; } private static void "
                + "need(int b) { if (b < 0) { throw new IllegalArgumentException(\"b\"); } }");
        breaks(-1, "public double a(int b) { return b < 1 ? 0.0 : 1.0 / (double) b; }");
        breaks(-1, "public int a() { int b = 9; while (b > 0 && b != 4) { b--; } return b; }");
    }

    private static void members() throws IOException {
        source(1, "package a; public final class A { }");
        source(1, "public class A { }");
        source(1, "public final class A { } final class B { }");
        breaks(1, "int b;");
        breaks(1, "int a() { return 1; }");
        breaks(1, "protected final int b = 1;");
        breaks(1, "public static final class B { }");
        breaks(1, "private final class B { }");
        breaks(1, "public int a() { return 1; } private int a(int b) { return b; }");
        breaks(1, "public int a() { return 1; } private static final class B { int a() { return 2; } }");
        breaks(2, "public int a() { class B { int c; } return new B().c; }");
        source(4, "public final class A { /* \u00e9 */ }");
        breaks(6, "private static final class B { public String toString() { return \"b\"; } }");
    }

    private static void types() throws IOException {
        breaks(3, "private Object b;");
        breaks(3, "private boolean[][] b;");
        breaks(3, "private String[] b;");
        breaks(3, "private int[][][] b;");
        breaks(3, "private ArrayList<String> b;");
        breaks(3, "private HashMap<Integer, Integer> b;");
        breaks(3, "public double a(double b) { return b % 2.0; }");
        breaks(5, "private static int b = 1;");
        breaks(5, "private static final int[] B = new int[9];");
        breaks(5, "private static final StringBuilder B = new StringBuilder();");
        breaks(5, "private static final int B; static { B = 1; }");
        breaks(5, "private static final int[] B = {1}; public int a() { B[0] = 2; return 1; }");
        breaks(5, "private static final int[] B = {1}; public int a() { B[0]++; return 1; }");
        breaks(5, "private static final int[] B = {1}; public int a() { B[0] += 2; return 1; }");
    }

    private static void library() throws IOException {
        breaks(4, "public int a() { return Math.addExact(1, 2); }");
        breaks(4, "public double a() { return Math.max(1.0, 2.0); }");
        breaks(4, "public int a(int b) { System.exit(b); return b; }");
        breaks(4, "private final boolean[] b = new boolean[4]; public int a() { Arrays.fill(b, true); return 1; }");
        breaks(4, "private final int[] b = new int[4]; public int a() { Arrays.sort(b); return 1; }");
        breaks(4, "private final boolean b = new Random() == null;");
        breaks(2, "private static interface B { int c(); } private static int d() { return 1; } "
                + "private static B b() { return A::d; }");
        breaks(2, "private static interface B { int c(); } private static B b() { return () -> 1; }");
    }

    private static void refusals() throws IOException {
        breaks(6, "public int a() throws IllegalStateException { throw new IllegalStateException(b()); } "
                + "private static String b() { return \"b\"; }");
        breaks(6, "public int a() { throw new IllegalStateException(); }");
        breaks(6, "public int a() throws IllegalStateException { return 1; }");
        breaks(6, "public int a() throws IllegalStateException { throw new NullPointerException(); }");
        breaks(6, "public A() { throw new IllegalStateException(); }");
        breaks(6, "public int a() { try { return b(); } catch (IllegalStateException e) { return 2; } } "
                + "private static int b() { return 1; }");
        breaks(6, "public int a() { synchronized (this) { return 1; } }");
        breaks(6, "public synchronized int a() { return 1; }");
        breaks(6, "public int a(int b) { assert b > 0; return 1; }");
        breaks(6, "public boolean a(int b) { return b() == b(); } private static String b() { return \"b\"; }");
        breaks(7, "public int a(int b) { return 1 / b; }");
        breaks(7, "public int a(int b) { return 1 % (b + 1); }");
        breaks(7, "public int a(int b) { int c = 1; c /= b; return c; }");
        breaks(7, "public double a(int b) { return 1.0 / (double) b; }");
        breaks(7, "private final int b = c(); private final int[] d = new int[b]; private static int c() { return 1; }");
        breaks(7, "private static abstract class B { } private static final class C extends B { int d; } "
                + "private static int e(B b) { return ((C) b).d; }");
    }

    private static void loopsAndSizes() throws IOException {
        breaks(8, "private static int b(int c) { return c < 1 ? 0 : b(c - 1); }");
        breaks(8, "private static int b(int c) { return d(c); } private static int d(int c) { return c < 1 ? 0 : b(c); }");
        breaks(9, "public int a() { for (;;) { } }");
        breaks(9, "public int a() { while (true) { } }");
        breaks(9, "public int a() { while (b()) { } return 1; } private static boolean b() { return true; }");
        breaks(9, "public int a(int b) { for (int c = 0; c != b; c++) { b--; } return b; }");
        breaks(9, "public int a(int b) { do { b--; } while (b != 0); return b; }");
        breaks(10, "public int a(int b) { String c = \"c\" + b; return c.length(); }");
        breaks(10, "public int a(int b) { String c = \"c\"; c += b; return c.length(); }");
        breaks(11, "private static int b(int c, int d, int e, int f, int g, int h, int i, int j) { return c; }");
        breaks(11, "private static int b() { return 1;" + "\n".repeat(60) + "}");
        breaks(11, fields(21));
        breaks(-1, fields(20));
        breaks(11, classes(12));
        breaks(-1, classes(11));
        breaks(11, steps(9));
        breaks(-1, steps(8));
        breaks(12, "private static final class B { } public int a() { for (int b = 0; b < 3; b++) { new B(); } return 1; }");
        breaks(12, "private static final class C { } public int a() { new C(); return 1; }");
        breaks(12, "public int a() { ArrayList<A> b = new ArrayList<A>(); return b.size(); }");
        breaks(12, "public int a() { int[] b = new int[3]; return b[0]; }");
    }

    private static String fields(int count) {
        StringBuilder all = new StringBuilder();
        for (int i = 0; i < count; i++) {
            all.append("private int b").append(i).append("; ");
        }
        return all.toString();
    }

    private static String classes(int count) {
        StringBuilder all = new StringBuilder();
        for (int i = 0; i < count; i++) {
            all.append("private static final class B").append(i).append(" { } ");
        }
        return all.toString();
    }

    private static String steps(int count) {
        StringBuilder all = new StringBuilder("private static int b1() { return 1; } ");
        for (int i = 2; i <= count; i++) {
            all.append("private static int b").append(i).append("() { return b").append(i - 1).append("(); } ");
        }
        return all.toString();
    }
}
