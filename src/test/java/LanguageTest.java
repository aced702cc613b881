import java.io.IOException;
import java.nio.file.Files;
import java.nio.file.Path;
import java.util.Set;

/** The rules of ../shared/LANGUAGE.md, asked of the class, and of lines that break each of them. */
public final class LanguageTest {
    public static void main(String[] args) throws IOException {
        theClass();
        promise15TakesNoNumberOfTheLibrary();
        brokenRules();
        Due.finish();
    }

    private static void theClass() throws IOException {
        String source = Files.readString(Path.of("src/main/java/NeighbourWires.java"));
        Set<String> breaches = Language.breaches(source);
        Due.dueTrue("the class keeps to the rules" + breaches, breaches.isEmpty());
        Due.dueTrue("signs 1 to 127 alone", source.chars().allMatch(c -> c >= 1 && c <= 127));
    }

    /** The search for the least cost began with Integer.MAX_VALUE, which no rule lists. */
    private static void promise15TakesNoNumberOfTheLibrary() throws IOException {
        breaks(4, "int least() { return Integer.MAX_VALUE; }");
        breaks(4, "int least() { return (int) Long.MIN_VALUE; }");
        keeps("private static final int DEAREST = 1 << 20; int least() { return Math.min(DEAREST, 3); }");
    }

    private static void brokenRules() throws IOException {
        keeps("int[] a = new int[3]; int f(int i) { return i >= 0 && i < a.length ? a[i] : 0; }");
        keeps("int g(long v, String s) { return Long.bitCount(v) + s.length() + (s.equals(\"a\") ? 1 : 0); }");
        keeps("private static int grow(int depth) { return depth > 40 ? 0 : 1 + grow(depth + 1); }");
        breaks(2, "class Inside { }");
        breaks(2, "interface Way { }");
        breaks(2, "int f() { class Here { } return 0; }");
        breaks(2, "void f() { Runnable r = () -> { }; }");
        breaks(3, "int f(double d) { return (int) d; }");
        breaks(3, "Object o;");
        breaks(3, "String[] s;");
        breaks(4, "int f(int a) { return Math.addExact(a, 1); }");
        breaks(4, "int f(double d) { return (int) Math.abs(d); }");
        breaks(4, "long f() { return System.nanoTime(); }");
        breaks(4, "int f(Integer i) { return i.intValue(); }");
        breaks(4, "String f() { return \"\\u00e9\"; }");
        breaks(4, "@Deprecated int f() { return 0; }");
        breaks(5, "static int a;");
        breaks(5, "static final int[] A = {1};");
        breaks(5, "static { }");
        breaks(6, "void f() { throw new IllegalStateException(); }");
        breaks(6, "void f() { try { f(); } finally { } }");
        breaks(6, "boolean f(String a) { return a == \"a\"; }");
        breaks(6, "synchronized void f() { }");
        breaks(6, "public int hashCode() { return 1; }");
        breaks(8, "int f(int i) { return g(i); } int g(int i) { return f(i); }");
        breaks(8, "int f(int i) { return i > 0 ? f(i - 1) : 0; }");
        breaks(9, "void f() { while (true) { } }");
        breaks(9, "void f() { for (;;) { } }");
        breaks(10, "String f(String s) { return s + 1; }");
        breaks(11, "int f(int a, int b, int c, int d, int e, int g, int h, int i) { return 0; }");
        breaks(11, "void a() { b(); } void b() { c(); } void c() { d(); } void d() { e(); } void e() { f(); } "
            + "void f() { g(); } void g() { h(); } void h() { i(); } void i() { }");
        breaks(11, "void f(int a) { " + "a++;\n".repeat(60) + "}");
        breaks(11, "int a;" + manyFields(20));
        keeps("int a;" + manyFields(19));
        breaks(12, "int[] f() { return new int[3]; }");
    }

    private static String manyFields(int count) {
        StringBuilder fields = new StringBuilder();
        for (int i = 0; i < count; i++) {
            fields.append(" int b").append(i).append(';');
        }
        return fields.toString();
    }

    private static Set<String> told(String members) throws IOException {
        return Language.breaches("public final class NeighbourWires { " + members + " }");
    }

    private static void keeps(String members) throws IOException {
        Set<String> told = told(members);
        Due.dueTrue(members + " keeps to the rules" + told, told.isEmpty());
    }

    private static void breaks(int rule, String members) throws IOException {
        Set<String> told = told(members);
        boolean found = told.stream().anyMatch(breach -> breach.matches("rule " + rule + "[,:](?s).*"));
        boolean isProgram = told.stream().noneMatch(breach -> breach.startsWith("no program"));
        Due.dueTrue(members + " breaks rule " + rule + ", told is " + told, found && isProgram);
    }
}
