import java.nio.file.Files;
import java.nio.file.Path;
import java.util.Set;

/** The class keeps to LANGUAGE.md; and what reads it for that finds each fault that it looks for. */
public final class LanguageTests {
    private static final Check CHECK = new Check("LanguageTests");
    private static final String PROGRAM = "src/main/java/LakeBooks.java";

    public static void main(String[] args) throws Exception {
        Set<String> faults = Language.faultsOf("LakeBooks", Files.readString(Path.of(PROGRAM)));
        faults.forEach(System.out::println);
        CHECK.due("faults of " + PROGRAM, faults.size(), 0);
        rightOnes();
        membersAndClasses();
        leftOut();
        loopsAndCalls();
        CHECK.end();
    }

    private static void right(String body) throws Exception {
        Set<String> faults = Language.faultsOf("X", "public final class X { " + body + " }");
        CHECK.holds("no fault in " + body + " but " + faults, faults.isEmpty());
    }

    private static void wrong(int rule, String body) throws Exception {
        wrongFile(rule, "public final class X { " + body + " }");
    }

    private static void wrongFile(int rule, String source) throws Exception {
        Set<String> faults = Language.faultsOf("X", source);
        CHECK.due("faults of " + source, faults.size(), 1);
        CHECK.holds("rule " + rule + " is found in " + source + " by " + faults,
            faults.stream().allMatch(fault -> fault.startsWith("rule " + rule + ":")));
    }

    private static void rightOnes() throws Exception {
        right("");
        right("private static final int A = 1; private static final int[] B = {1, 2};");
        right("private static final class Y { private int[][] rows = new int[2][3]; } private Y[] all = new Y[3];");
        right("int f(String a, Y b) { return b == null ? a.length() : Math.max(1, 2); } static final class Y { }");
        right("void f(boolean so) { for (int i = 0; so && i < 9; i++) { so = !so; } int j = 0;"
            + " while (j < 9) { j++; } do { j--; } while (j >= 0 && so); }");
        right("private static int f(int depth) { return depth > 9 ? 0 : f(depth + 1); }");
        right(chain(8));
    }

    private static void membersAndClasses() throws Exception {
        wrongFile(1, "package p; public final class X { }");
        wrongFile(1, "public final class X { } class Y { }");
        wrong(1, "public static final class Y { }");
        wrong(2, "private final class Y { }");
        wrong(2, "void f() { class Y { } }");
        wrong(3, "private Object a;");
        wrong(3, "private int[][][] a;");
        wrong(3, "private String[][] a;");
        wrong(3, "void f(Runnable a) { }");
        wrongFile(4, "import java.util.Map; public final class X { }");
        wrongFile(4, "import static java.lang.Math.max; public final class X { }");
        wrong(5, "private static int a = 1;");
        wrong(5, "private static final int[] A = new int[3];");
        wrong(5, "private static final boolean[] A = {true};");
        wrong(5, "private static final int[] A = {1}; void f() { A[0] = 2; }");
        wrong(5, "private static final int[] A = {1}; void f() { A[0]++; }");
        wrong(5, "private static final int[] A = {1}; void f() { A[0] += 2; }");
        wrong(5, "static { }");
        wrong(6, "public int hashCode() { return 1; }");
        wrong(11, "void f(int a, int b, int c, int d, int e, int g, int h, int i) { }");
        wrong(11, "void f() { " + "\n".repeat(60) + "}");
        wrong(11, "private int a" + times(",a", 20) + ";");
    }

    private static String times(String sign, int n) {
        StringBuilder all = new StringBuilder();
        for (int i = 0; i < n; i++) {
            all.append(sign).append(i);
        }
        return all.toString();
    }

    private static void leftOut() throws Exception {
        wrong(4, "private String a = \"\\u00e9\";");
        wrong(4, "int f() { return Math.addExact(1, 2); }");
        wrong(4, "long f() { return System.nanoTime(); }");
        wrong(6, "void f() { throw null; }");
        wrong(6, "void f() { try { f2(); } finally { f2(); } } private void f2() { }");
        wrong(6, "void f() { synchronized (this) { } }");
        wrong(6, "void f(int a) { assert a > 0; }");
        wrong(6, "X f(Y a) { return a.x == null ? (X) a.x : null; } static final class Y { private X x; }");
        wrong(6, "boolean f(String a, String b) { return a == b; }");
        wrong(6, "boolean f(Integer a, Integer b) { return a != b; }");
        wrong(10, "String f(String a, int b) { return a + b; }");
        wrong(10, "void f(String a) { a += 1; }");
        Set<String> lambda = Language.faultsOf("X", "public final class X { Runnable f() { return () -> { }; } }");
        CHECK.holds("a lambda is found", lambda.toString().contains("rule 2: a lambda"));
        Set<String> reference = Language.faultsOf("X", "public final class X { Runnable f() { return this::g; }"
            + " private void g() { } }");
        CHECK.holds("a method reference is found", reference.toString().contains("rule 2: a method reference"));
        CHECK.holds("javac's errors are found", !Language.faultsOf("X", "public final class X { int f() { } }")
            .isEmpty());
    }

    private static void loopsAndCalls() throws Exception {
        wrong(8, "private static int f(int n) { return n > 9 ? 0 : f(n + 1); }");
        wrong(9, "void f() { for (;;) { } }");
        wrong(9, "void f(boolean so) { while (so) { so = !so; } }");
        wrong(9, "void f(int n) { while (n != 0) { n--; } }");
        wrong(9, "void f(boolean so) { for (int i = 0; so || i < 9; i++) { } }");
        wrong(9, "void f(int n) { do { n--; } while (n != 0); }");
        wrong(12, "int[] f() { return new int[3]; }");
        wrong(12, "Y f() { return new Y(); } static final class Y { }");
        wrong(11, chain(9));
    }

    private static String chain(int n) {
        StringBuilder all = new StringBuilder();
        for (int i = 1; i < n; i++) {
            all.append("private int f").append(i).append("() { return f").append(i + 1).append("(); } ");
        }
        return all.append("private int f").append(n).append("() { return 1; }").toString();
    }
}
