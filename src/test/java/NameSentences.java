/** The section "Names and paths". */
final class NameSentences extends Sentences {
    private static final int FILE = TarArchive.KIND_FILE;
    private static final int LINK = TarArchive.KIND_LINK;
    private static final int DIR = TarArchive.KIND_DIR;
    // The neighbours of each range of name characters, and what a signed or a 7-bit look would take for one.
    private static final int[] NO_NAME_CHARS = {1, ' ', '-', '.', '/', ':', '@', 'A', 'Z', '[', '^', '`', '{', 127, 128,
        'a' + 128, '_' + 128, 255};
    private static final int[] NAME_CHARS = {'a', 'b', 'y', 'z', '0', '1', '8', '9', '_'};

    private NameSentences() {
    }

    static void run() {
        section("Names and paths");
        says("A name is packed in an int: byte k is `(name >>> (8*k)) & 255`, for k = 0..3.", NameSentences::packing);
        says("Its length n is the number of leading nonzero bytes.", NameSentences::lengths);
        says("A name is valid iff 1 <= n <= 4,", NameSentences::leastAndMost);
        says("every byte after the first n is 0,", NameSentences::bytesAfter);
        says("and each of the first n bytes is 'a'..'z', '0'..'9' or '_'.", NameSentences::characters);
        says("Within one parent (or at top level) names are unique.", NameSentences::unique);
        says("The depth of a top-level node is 1; otherwise it is its parent's depth + 1.", NameSentences::depth);
        says("Depth is at most `MAX_DEPTH`.", NameSentences::deepest);
        says("The PATH of a node is the names of its ancestors from the top down, then its own name, joined by '/'.",
            NameSentences::paths);
        says("A path text is VALID iff splitting it at every '/' gives 1..`MAX_DEPTH` components,", NameSentences::components);
        says("each a valid name text (1..4 characters,", NameSentences::componentLengths);
        says("each 'a'..'z', '0'..'9' or '_').", NameSentences::componentCharacters);
    }

    private static void packing() {
        TarArchive x = new TarArchive(2, 4);
        Kit.due("addNode of abcd", x.addNode(-1, DIR, 0x64636261, 0), 0);
        x.create();
        dueBytes("abcd", x, 0, field("abcd", 12));
        x.extract();
        Kit.due("extracted name", x.nodeInfo(1, 0, TarArchive.INFO_NAME), 0x64636261);
        // The highest byte is looked at unsigned: here it is 128 and more.
        for (int name : new int[] {MIN, MIN | 0x616161, 0xe1616161, 0xff616161, -1}) {
            Kit.refused(x, "addNode of " + name, () -> x.addNode(-1, DIR, name, 0), TarArchive.ERR_NAME);
        }
    }

    private static void lengths() {
        for (int n = 1; n <= 4; n++) {
            TarArchive x = new TarArchive(2, 4);
            String name = "wxyz".substring(0, n);
            Kit.due("addNode of " + name, Kit.dir(x, -1, name), 0);
            x.create();
            dueBytes(name, x, 0, field(name, 12));
        }
    }

    private static void leastAndMost() {
        TarArchive x = new TarArchive(8, 12);
        for (int name : new int[] {0, 0x6100, 0x610000, 0x61000000, 0x61616100}) {
            Kit.refused(x, "addNode of length 0, " + name, () -> x.addNode(-1, DIR, name, 0), TarArchive.ERR_NAME);
        }
        String[] names = {"a", "aa", "aaa", "aaaa"};
        for (int i = 0; i < 4; i++) {
            Kit.due("addNode of " + names[i], Kit.dir(x, -1, names[i]), i);
            Kit.due("INFO_NAME", x.nodeInfo(0, i, TarArchive.INFO_NAME), Kit.name(names[i]));
        }
    }

    private static void bytesAfter() {
        TarArchive x = new TarArchive(2, 4);
        int[] names = {0x00610061, 0x61000061, 0x61610061, 0x61006161, 0x01000061, 0x01006161, 0x80000061};
        for (int name : names) {
            Kit.refused(x, "addNode of " + name, () -> x.addNode(-1, DIR, name, 0), TarArchive.ERR_NAME);
        }
    }

    private static void characters() {
        for (int n = 1; n <= 4; n++) {
            for (int place = 0; place < n; place++) {
                int rest = Kit.name("kkkk".substring(0, n)) & ~(255 << (8 * place));
                for (int c : NO_NAME_CHARS) {
                    TarArchive x = new TarArchive(2, 4);
                    int name = rest | c << (8 * place);
                    Kit.refused(x, "addNode with byte " + c, () -> x.addNode(-1, FILE, name, 0), TarArchive.ERR_NAME);
                }
                for (int c : NAME_CHARS) {
                    TarArchive x = new TarArchive(2, 4);
                    Kit.due("addNode with byte " + c, x.addNode(-1, FILE, rest | c << (8 * place), 0), 0);
                }
            }
        }
    }

    private static void unique() {
        TarArchive x = new TarArchive(8, 12);
        x.addNode(-1, DIR, 'a', 0);
        Kit.refused(x, "a twice at top level", () -> x.addNode(-1, FILE, 'a', 0), TarArchive.ERR_DUPLICATE);
        Kit.due("a in a", x.addNode(0, DIR, 'a', 0), 1);
        Kit.refused(x, "a twice in a", () -> x.addNode(0, FILE, 'a', 0), TarArchive.ERR_DUPLICATE);
        Kit.due("a in a in a", x.addNode(1, FILE, 'a', 0), 2);
        Kit.due("aa in a", x.addNode(0, FILE, 0x6161, 0), 3);
        read("a twice", TarArchive.ERR_DUPLICATE, 1, 1, dir("a"), dir("a"), END, END);
        read("a twice in a", TarArchive.ERR_DUPLICATE, 2, 2, dir("a"), dir("a/a"), dir("a/a"), END, END);
        read("a in a", 2, -1, 2, dir("a"), dir("a/a"), END, END);
    }

    private static void depth() {
        // The depth follows the parents and not the index: many nodes stand beside each other here.
        TarArchive x = new TarArchive(8, 12);
        Kit.dir(x, -1, "a");
        for (int i = 1; i < 7; i++) {
            Kit.due("a node of depth 2", Kit.dir(x, 0, "b" + i), i);
        }
        Kit.due("a node of depth 3", Kit.dir(x, 6, "c"), 7);
        x = Kit.chain("a/b/c/d/e");
        Kit.due("a second node of depth 5", Kit.dir(x, 3, "f"), 5);
        Kit.due("a node of depth 6 under it", Kit.dir(x, 5, "g"), 6);
        TarArchive deep = x;
        Kit.refused(x, "a node of depth 7", () -> Kit.dir(deep, 6, "h"), TarArchive.ERR_DEPTH);
        Kit.due("another top-level node", Kit.dir(x, -1, "z"), 7);
    }

    private static void deepest() {
        for (int kind : new int[] {DIR, FILE, LINK}) {
            TarArchive x = Kit.chain("a/b/c/d/e");
            Kit.due("a FILE of depth 6", Kit.file(x, 4, "f"), 5);
            Kit.due("a node of depth 6", x.addNode(4, kind, 'g', 5), 6);
            TarArchive y = Kit.chain("a/b/c/d/e/f");
            Kit.file(y, -1, "g");
            Kit.refused(y, "a node of depth 7", () -> y.addNode(5, kind, 'h', 6), TarArchive.ERR_DEPTH);
        }
    }

    private static void paths() {
        TarArchive x = new TarArchive(8, 12);
        Kit.dir(x, -1, "ab");
        Kit.dir(x, -1, "q");
        Kit.dir(x, 0, "cde");
        Kit.file(x, 2, "f_");
        Kit.link(x, 1, "l", 3);
        x.create();
        String[] want = {"ab", "q", "ab/cde", "ab/cde/f_", "q/l"};
        for (int i = 0; i < 5; i++) {
            dueBytes("path of " + i, x, 64 * i, field(want[i], 12));
        }
        dueBytes("target's path", x, 64 * 4 + 27, field("ab/cde/f_", 12));
    }

    private static void badPath(String prefix, String name) {
        String what = "the path '" + prefix + "', '" + name + "'";
        read(what, TarArchive.ERR_NAME, 1, 1, dir("a"), withText(dir(name), 47, prefix), END, END);
    }

    private static void components() {
        read("1 component", 1, -1, 1, dir("a"), END, END);
        read("6 components", 6, -1, 6, dir("a"), dir("a/b"), dir("a/b/c"), dir("a/b/c/d"), dir("a/b/c/d/e"),
            dir("a/b/c/d/e/f"), END, END);
        badPath("", "");
        badPath("a", "b/c/d/e/f/g");
        badPath("a/b/c/d/e", "f/g");
        badPath("a/b/c/d/e", "f/g/h/i/j/k");
        for (String name : new String[] {"/", "/b", "b/", "a//b", "//", "////////////"}) {
            badPath("", name);
            badPath("a", name);
        }
    }

    private static void componentLengths() {
        for (int n = 1; n <= 4; n++) {
            String name = "wxyz".substring(0, n);
            read("a component of " + n, 2, -1, 2, dir(name), dir(name + "/" + name), END, END);
        }
        for (String name : new String[] {"vwxyz", "a/vwxyz", "vwxyz/a", "abcdefghijkl", "a//b", "/a", "a/"}) {
            badPath("", name);
        }
        badPath("vwxyz", "a");
        badPath("abcdefghij", "a");
    }

    private static void componentCharacters() {
        for (int place = 0; place < 4; place++) {
            for (int c : NO_NAME_CHARS) {
                // A slash would only split the name.
                if (c != '/') {
                    badPath("", put("kkkk", place, c));
                    badPath("", "a/" + put("kkkk", place, c));
                    badPath(put("kkkk", place, c), "k");
                }
            }
            for (int c : NAME_CHARS) {
                String name = put("kkkk", place, c);
                read("the name " + name, 2, -1, 2, dir(name), dir(name + "/" + name), END, END);
            }
        }
    }

    private static String put(String text, int place, int c) {
        return text.substring(0, place) + (char) c + text.substring(place + 1);
    }
}
