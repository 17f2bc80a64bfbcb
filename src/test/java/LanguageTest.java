import java.io.IOException;
import java.lang.reflect.Array;
import java.lang.reflect.Field;
import java.nio.file.Files;
import java.nio.file.Path;
import java.util.List;
import java.util.TreeSet;
import java.util.function.IntSupplier;
import java.util.regex.Pattern;

/** The rules of LANGUAGE.md: the class breaks none of them, and a class that broke one would be told. */
public final class LanguageTest {
    private static final int[] ANY = {Integer.MIN_VALUE, Integer.MIN_VALUE + 1, -65, -3, -2, -1, 0, 1, 2, 3, 5, 7, 8, 9, 31, 32,
        63, 64, 97, 255, 256, 511, 512, 767, 768, 0x61616161, Integer.MAX_VALUE - 1, Integer.MAX_VALUE};

    private static String source;

    public static void main(String[] args) throws IOException, IllegalAccessException {
        source = Files.readString(Path.of("src/main/java/TarArchive.java"));
        Kit.due("the rules that the class breaks", String.join("\n  ", broken(source)), "");
        oneClass();
        types();
        library();
        arrays();
        staticFields();
        wordsLeftOut();
        divisors();
        recursion();
        loops();
        calls();
        unbroken();
        greatestLengths();
        noCallThrows();
        sameAnswers();
        Kit.end(LanguageTest.class);
    }

    private static List<String> broken(String text) throws IOException {
        return LanguageRules.broken(text, FaceSentences.LINES);
    }

    /** The class with these members more. */
    private static String with(String members) {
        return source.substring(0, source.lastIndexOf('}')) + members + "\n}\n";
    }

    private static String replaced(String old, String text) {
        Kit.due("places of " + old, source.split(Pattern.quote(old), -1).length - 1, 1);
        return source.replace(old, text);
    }

    private static void toldOf(int rule, String text, String what) throws IOException {
        List<String> told = broken(text);
        boolean found = told.stream().anyMatch(line -> line.startsWith("rule " + rule + ":"));
        Kit.due("rule " + rule + " with " + what, found ? "broken" : "not told: " + told, "broken");
    }

    private static void told(int rule, String... members) throws IOException {
        for (String text : members) {
            toldOf(rule, with(text), text);
        }
    }

    private static void inConstructor(int rule, String statements) throws IOException {
        String text = replaced("this.lastErrorBlock = -1;", "this.lastErrorBlock = -1; " + statements);
        toldOf(rule, text.substring(0, text.lastIndexOf('}')) + "private int[] q; private void take(int[] a) { } }", statements);
    }

    private static void oneClass() throws IOException {
        told(1, "int loose;", "int loose() { return 1; }", "protected int kept;", "public int more() { return 1; }",
            "public static final int MORE = 1;", "public TarArchive(int a) { this(a, a); }",
            "private int extract(int a) { return a; }", "private static final class Inner { }", "private enum Inner { ONE }",
            "private record Inner(int a) { }", "private interface Inner { }");
        toldOf(1, source + "final class Second { }", "a second class");
        toldOf(1, "package p;\n" + source, "a package line");
        toldOf(1, replaced("public final class", "public class"), "a class that is not final");
        toldOf(1, replaced("public int errorBlock()", "private int errorBlock()"), "a method hidden");
        toldOf(1, replaced("public int nodeCount(int t)", "public int nodeCount(long t)").replace("counts[t]",
            "counts[(int) t]").replace("isTree(int t)", "isTree(long t)"), "another parameter");
        toldOf(1, replaced("ERR_PADDING = -21", "ERR_PADDING = -22"), "another constant");
    }

    private static void types() throws IOException {
        told(2, "private float q;", "private double q() { return 1; }", "private boolean q(int a) { return a < 1.5; }",
            "private int[][] q;", "private String q;", "private Object q() { return this; }", "private Integer q;",
            "private void q() { var text = \"a\"; }", "private int q(TarArchive other) { return 1; }");
    }

    private static void library() throws IOException {
        told(3, "private int q(int a) { return Math.abs(a); }", "private int q() { return Integer.MAX_VALUE; }",
            "private int q() { return hashCode(); }", "private int q() { return this.hashCode(); }",
            "private void q() { System.out.println(); }", "private long q() { return System.nanoTime(); }",
            "private int q(int[] a) { return java.util.Arrays.hashCode(a); }");
        toldOf(3, "import java.util.List;\n" + source, "an import");
    }

    private static void arrays() throws IOException {
        told(4, "private int[] q = {1, 2};", "private int[] q = new int[] {1, 2};", "private int[] q = new int[0];",
            "private int[] q = new int[length];", "private void q() { int[] a = new int[3]; }",
            "private int[] q() { return path; }", "private boolean q() { return path == archive; }",
            "private boolean q() { return path != null; }", "private int[] q = new int[4]; private void r() { q = path; }",
            "private void q() { int[] a = path; for (int i = 0; i < 2; i++) { a = archive; } }",
            "private void q() { new TarArchive(2, 4); }", "private int[] q = MAX_FILE > 3 ? new int[4] : new int[5];");
        inConstructor(4, "for (int i = 0; i < 2; i++) { q = new int[3]; }");
        inConstructor(4, "if (maxNodes > 2) { q = new int[3]; }");
        inConstructor(4, "q = new int[maxNodes];");
        inConstructor(4, "create(); q = new int[3];");
        inConstructor(4, "q = new int[3]; take(q);");
    }

    private static void staticFields() throws IOException {
        told(5, "private static int q;", "private static int[] q;", "private static final boolean Q = true;",
            "private static final int Q = clamp(1, 2, 3);", "private static final char Q = 1;", "static { }");
    }

    private static void wordsLeftOut() throws IOException {
        told(6, "private void q(RuntimeException e) { throw e; }", "private int q() { try { return 1; } finally { } }",
            "private void q() { synchronized (this) { } }", "private synchronized void q() { }",
            "private void q(int a) { assert a > 0; }", "private boolean q() { return this instanceof TarArchive; }",
            "private void q() { Runnable r = () -> { }; }", "private void q() { Runnable r = this::create; }",
            "private int[] q = (int[]) path;", "private void q() throws RuntimeException { }");
    }

    private static void divisors() throws IOException {
        told(7, "private int q(int a) { return 1 / a; }", "private int q(int a) { return 1 % a; }",
            "private int q(int a, int b) { a /= b; return a; }", "private int q(int a, int b) { a %= b; return a; }");
    }

    private static void recursion() throws IOException {
        told(8, "private int q(int a) { return a < 1 ? 0 : q(a - 1); }",
            "private int q(int a) { return r(a); } private int r(int a) { return q(a); }");
    }

    private static void loops() throws IOException {
        told(8, "private void q() { for (;;) { } }", "private void q() { while (true) { } }",
            "private void q(int a) { while (a != 3) { a++; } }", "private void q(int a) { while (a < 3) { length++; } }",
            "private void q() { for (int i = 0; i < 3; i--) { } }", "private void q() { for (int i = 3; i > 0; i++) { } }",
            "private void q(int n) { for (int i = 0; i < n; i++) { n++; } }",
            "private void q(int n) { for (int i = 0; i < 9; i++) { i = n; } }",
            "private void q() { for (int i = 0; i < 9; i++) { i--; } }",
            "private void q(int a) { while (a < 9) { if (length > 3) { a++; } } }",
            "private void q(int a) { while (a < 9) { if (length > 3) { continue; } a++; } }",
            "private void q(int a) { while (a < 9 || length > 3) { a++; } }",
            "private void q(int a) { do { a--; } while (a < 9); }",
            "private void q() { for (int i = 0; i < length; i++) { length++; } }",
            "private void q() { for (int i = 0; i < length; i++) { appendArchive(1); } }",
            "private void q() { for (int i = 0; i < counts[0]; i++) { counts[0]++; } }",
            "private void q() { for (int i = 0; i < archiveLength(); i++) { length++; } }");
    }

    private static void calls() throws IOException {
        told(10, "private int q(int a, int b, int c, int d, int e, int f, int g, int h) { return a; }",
            "private int q(int a) { return clamp(clamp(a, 1, 2), 1, 2); }",
            "private int q(int a) { return clamp(1 + nameLength(a), 1, 2); }",
            "private int q(int a) { return clamp(path[nameLength(a)], 1, 2); }",
            "private void q() { " + "length++;\n".repeat(61) + "}", "private int q() { return r(); } "
            + "private int r() { return extract(); }");
        StringBuilder fields = new StringBuilder();
        for (int i = 0; i < 41; i++) {
            fields.append("private int q").append(i).append(";\n");
        }
        told(10, fields.toString());
    }

    /** What the rules leave is not told of. */
    private static void unbroken() throws IOException {
        String[] members = {"private long q(short a, byte b, char c, boolean d) { return d ? (long) a << 3 : (int) c + b; }",
            "private int q(int a) { return a / 7 % BLOCK; }", "private final byte[] q = new byte[BLOCK];",
            "private int[] q = new int[1]; private int r(int i) { return i >= 0 && i < q.length ? q[i] : 0; }",
            "private int q(int a) { int n = 0; for (int i = 9; i > a && n < 5; i -= 2) { n++; } return n; }",
            "private int q(int a) { do { a++; } while (a < 9); return a; }",
            "private int q(int a) { int[] b = path; int n = 0; for (int c : b) { n += c; } return n + a; }",
            "private int q(int a) { switch (a) { case 1: return 2; default: break; } return 3; }",
            "private int q(int a, int b, int c, int d, int e, int f, int g) { return clamp(a, b, c); }",
            "private static final long Q = 1L << 40;"};
        for (String text : members) {
            Kit.due("what is broken by " + text, broken(with(text)).toString(), "[]");
        }
    }

    /** Rule 4: the arrays are as long as the document ever allows, and no longer, whatever the capacities. */
    private static void greatestLengths() throws IllegalAccessException {
        // Two counts, two trees of 8 nodes, a path of six names, 32 bytes for each node, 12 blocks.
        String greatest = "[2, " + 2 * 8 + ", " + 6 * 5 + ", " + 2 * 8 * 32 + ", " + 12 * 64 + "]";
        for (int any : new int[] {Integer.MIN_VALUE, 5, Integer.MAX_VALUE}) {
            TarArchive x = new TarArchive(any, any);
            TreeSet<Integer> lengths = new TreeSet<>();
            for (Field field : TarArchive.class.getDeclaredFields()) {
                if (field.getType().isArray()) {
                    field.setAccessible(true);
                    lengths.add(Array.getLength(field.get(x)));
                }
            }
            Kit.due("the lengths of the arrays", lengths.toString(), greatest);
        }
    }

    /** Objects in every state that the tests have a name for. */
    private static TarArchive[] states() {
        TarArchive least = RoundTripTest.empty();
        Kit.file(least, -1, "a");
        Kit.file(least, -1, "b");
        Kit.fill(least, 1, 32);
        TarArchive unended = new TarArchive(8, 4);
        Kit.load(unended, Kit.header("a", '0', 32, ""), Kit.zeros(), Kit.header("b", '1', 0, "a"), Kit.header("c", '0', 1, ""));
        TarArchive noise = new TarArchive(8, 12);
        for (int pos = 0; pos < 768; pos++) {
            noise.appendArchive(pos * 151 & 255);
        }
        return new TarArchive[] {new TarArchive(8, 12), least, Kit.busy(), Kit.chain("a/b/c/d/e/f"), RoundTripTest.deep(),
            RoundTripTest.linked(), RoundTripTest.crowded(), unended, noise};
    }

    private static void ends(String call, IntSupplier made) {
        try {
            made.getAsInt();
            Kit.due(call + " ends", 1, 1);
        } catch (RuntimeException thrown) {
            Kit.due(call, "throwing " + thrown, "no call may throw");
        }
    }

    /** Rule 7: any arguments in any state. */
    private static void noCallThrows() {
        for (TarArchive x : states()) {
            ends("extract", x::extract);
            anyTwo(x);
            anyThree(x);
            ends("create", x::create);
            ends("extract", x::extract);
            anyTwo(x);
            anyFour(x);
            anyThree(x);
            ends("create", x::create);
            ends("extract", x::extract);
        }
    }

    private static void anyTwo(TarArchive x) {
        for (int a : ANY) {
            ends("archiveByte(" + a + ")", () -> x.archiveByte(a));
            ends("nodeCount(" + a + ")", () -> x.nodeCount(a));
            ends("appendArchive(" + a + ")", () -> x.appendArchive(a));
            for (int b : ANY) {
                ends("appendData(" + a + ", " + b + ")", () -> x.appendData(a, b));
                ends("pokeArchive(" + a + ", " + b + ")", () -> x.pokeArchive(a, b));
            }
            ends("extract", x::extract);
        }
        for (int k = ANY.length - 1; k >= 0; k--) {
            int len = ANY[k];
            ends("truncateArchive(" + len + ")", () -> x.truncateArchive(len));
            ends("extract", x::extract);
        }
    }

    private static void anyThree(TarArchive x) {
        for (int t : ANY) {
            for (int i : ANY) {
                for (int k : ANY) {
                    ends("nodeInfo(" + t + ", " + i + ", " + k + ")", () -> x.nodeInfo(t, i, k));
                    ends("nodeByte(" + t + ", " + i + ", " + k + ")", () -> x.nodeByte(t, i, k));
                }
            }
        }
    }

    private static void anyFour(TarArchive x) {
        for (int kind : new int[] {-1, 0, 1, 2, 3, 4}) {
            for (int parent : ANY) {
                for (int name : ANY) {
                    for (int last : ANY) {
                        ends("addNode(" + parent + ", " + kind + ", " + name + ", " + last + ")",
                            () -> x.addNode(parent, kind, name, last));
                    }
                }
            }
            ends("create", x::create);
        }
    }

    /** Rule 11: the same calls give the same answers, whatever other objects have lived through. */
    private static void sameAnswers() {
        TarArchive[] first = states();
        TarArchive[] second = states();
        for (int i = 0; i < first.length; i++) {
            for (int round = 0; round < 3; round++) {
                Kit.due("extract() of state " + i, first[i].extract(), second[i].extract());
                Kit.due("state " + i, Kit.all(first[i]), Kit.all(second[i]));
                Kit.due("create() of state " + i, first[i].create(), second[i].create());
                Kit.due("state " + i, Kit.all(first[i]), Kit.all(second[i]));
                Kit.due("a node more for state " + i, Kit.file(first[i], -1, "z" + round), Kit.file(second[i], -1, "z" + round));
            }
        }
    }
}
