import java.util.ArrayList;
import java.util.List;
import java.util.Map;
import java.util.TreeMap;

/** Tests that stand each under the sentence of the document that they hold the class to. */
class Sentences extends Blocks {
    static final int MIN = Integer.MIN_VALUE;
    static final int MAX = Integer.MAX_VALUE;

    private static final Map<String, List<String>> QUOTED = new TreeMap<>();
    private static String section = "";

    static void section(String title) {
        section = title;
        QUOTED.putIfAbsent(title, new ArrayList<>());
    }

    /** Runs the test of a sentence, or of the part of it that is quoted. */
    static void says(String quote, Runnable test) {
        QUOTED.get(section).add(quote);
        int wrong = Kit.wrong();
        int checked = Kit.checked();
        try {
            test.run();
        } catch (RuntimeException thrown) {
            Kit.due("a call", "throwing " + thrown, "no call may throw");
        }
        Kit.due("tests without a check", Kit.checked() == checked ? 1 : 0, 0);
        if (Kit.wrong() > wrong) {
            System.out.println("-- not kept, " + section + ": " + quote);
        }
    }

    /** Words that lead to others and ask for nothing themselves. */
    static void onlyLeads(String quote) {
        QUOTED.get(section).add(quote);
    }

    /** What of a paragraph of this section no test stands under. */
    static String unquoted(String title, String paragraph) {
        StringBuilder left = new StringBuilder(paragraph);
        for (String quote : QUOTED.getOrDefault(title, List.of())) {
            for (int at = paragraph.indexOf(quote); at >= 0; at = paragraph.indexOf(quote, at + 1)) {
                left.replace(at, at + quote.length(), " ".repeat(quote.length()));
            }
        }
        return left.toString().strip();
    }

    static Map<String, List<String>> quoted() {
        return QUOTED;
    }

    /** The paths of 1 to 12 bytes, of three names at most. */
    static String pathOf(int length) {
        String[] paths = {"a", "ab", "abc", "abcd", "a/bcd", "ab/cde", "abc/def", "abc/defg", "abcd/efgh", "a/bcde/fgh",
            "ab/cdef/ghi", "abc/def/ghij"};
        return paths[length - 1];
    }

    /** Every part but the source tree. */
    static String besideSource(TarArchive x) {
        return Kit.tree(x, 1) + " / " + Kit.archive(x) + " / " + x.errorBlock();
    }

    /** Every part but the archive. */
    static String besideArchive(TarArchive x) {
        return Kit.tree(x, 0) + " / " + Kit.tree(x, 1) + " / " + x.errorBlock();
    }

    /** The extracted tree after these blocks and a good end. */
    static String extractedTree(int[]... blocks) {
        TarArchive x = new TarArchive(8, 12);
        Kit.load(x, blocks);
        Kit.feed(x, END);
        Kit.feed(x, END);
        Kit.due("extract() of a whole archive", x.extract(), x.nodeCount(1));
        return Kit.tree(x, 1);
    }

    static void dueBytes(String what, TarArchive x, int from, String want) {
        for (int k = 0; k < want.length(); k++) {
            Kit.due(what + ", archive byte " + (from + k), x.archiveByte(from + k), want.charAt(k));
        }
    }

    /** The text and then 0s up to this size. */
    static String field(String text, int size) {
        return text + "\0".repeat(size - text.length());
    }
}
