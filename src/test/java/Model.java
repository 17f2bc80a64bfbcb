import java.util.ArrayList;
import java.util.List;

/** The document once more, told with texts and lists, to hold TarArchive against. */
final class Model {
    private static final class Node {
        int kind;
        Node parent;
        String name;
        int mode;
        Node target;
        final List<Integer> content = new ArrayList<>();

        String path() {
            return parent == null ? name : parent.path() + "/" + name;
        }

        Node file() {
            return kind == TarArchive.KIND_LINK ? target : this;
        }
    }

    private final int maxNodes;
    private final int maxBlocks;
    private final List<List<Node>> trees = List.of(new ArrayList<>(), new ArrayList<>());
    private List<Integer> archive = new ArrayList<>();
    private int errorBlock = -1;

    Model(int maxNodes, int maxBlocks) {
        this.maxNodes = Math.max(2, Math.min(8, maxNodes));
        this.maxBlocks = Math.max(4, Math.min(12, maxBlocks));
    }

    private static String unpack(int name) {
        StringBuilder text = new StringBuilder();
        for (int k = 0; k < 4; k++) {
            text.append((char) (name >>> (8 * k) & 255));
        }
        return text.toString().replaceAll("\0+$", "");
    }

    private static Node at(List<Node> tree, int i) {
        return i >= 0 && i < tree.size() ? tree.get(i) : null;
    }

    private static Node byPath(List<Node> tree, String path) {
        return tree.stream().filter(n -> n.path().equals(path)).findFirst().orElse(null);
    }

    int addNode(int parent, int kind, int name, int modeOrTarget) {
        List<Node> tree = trees.get(0);
        if (tree.size() == maxNodes) {
            return TarArchive.ERR_FULL;
        }
        if (kind < 1 || kind > 3) {
            return TarArchive.ERR_KIND;
        }
        Node made = new Node();
        made.kind = kind;
        made.name = unpack(name);
        if (!made.name.matches("[a-z0-9_]{1,4}")) {
            return TarArchive.ERR_NAME;
        }
        made.parent = at(tree, parent);
        if (parent != -1 && (made.parent == null || made.parent.kind != TarArchive.KIND_DIR)) {
            return TarArchive.ERR_PARENT;
        }
        if (made.path().split("/").length > 6) {
            return TarArchive.ERR_DEPTH;
        }
        if (byPath(tree, made.path()) != null) {
            return TarArchive.ERR_DUPLICATE;
        }
        if (kind == TarArchive.KIND_LINK) {
            Node named = at(tree, modeOrTarget);
            if (named == null || named.kind == TarArchive.KIND_DIR) {
                return TarArchive.ERR_LINK;
            }
            made.target = named.file();
        } else if (modeOrTarget < 0 || modeOrTarget > 511) {
            return TarArchive.ERR_MODE;
        } else {
            made.mode = modeOrTarget;
        }
        tree.add(made);
        return tree.size() - 1;
    }

    int appendData(int node, int value) {
        Node named = at(trees.get(0), node);
        if (named == null) {
            return TarArchive.ERR_ARG;
        }
        if (named.kind == TarArchive.KIND_DIR) {
            return TarArchive.ERR_KIND;
        }
        if (value < 0 || value > 255) {
            return TarArchive.ERR_ARG;
        }
        List<Integer> content = named.file().content;
        if (content.size() == 32) {
            return TarArchive.ERR_FULL;
        }
        content.add(value);
        return content.size();
    }

    /** Prefix and name, or null. */
    private static String[] split(String path) {
        if (path.length() <= 12) {
            return new String[] {"", path};
        }
        for (int s = 0; s < path.length(); s++) {
            if (path.charAt(s) == '/' && path.length() - s - 1 <= 12) {
                return s > 10 ? null : new String[] {path.substring(0, s), path.substring(s + 1)};
            }
        }
        return null;
    }

    private static String pad(String text, int size) {
        return text + "\0".repeat(size - text.length());
    }

    int create() {
        List<Integer> made = new ArrayList<>();
        for (Node n : trees.get(0)) {
            String[] parts = split(n.path());
            boolean link = n.kind == TarArchive.KIND_LINK;
            if (parts == null || link && n.target.path().length() > 12) {
                return TarArchive.ERR_NAME_TOO_LONG;
            }
            String front = pad(parts[1], 12) + String.format("%03o\0%03o\0", n.mode, n.content.size());
            String back = (link ? "1" : n.kind == TarArchive.KIND_DIR ? "5" : "0")
                + pad(link ? n.target.path() : "", 12) + "ustar\00000" + pad(parts[0], 10) + pad("", 7);
            int sum = (front + "      " + back).chars().sum();
            (front + String.format("%05o\0", sum) + back).chars().forEach(made::add);
            if (!n.content.isEmpty()) {
                made.addAll(n.content);
                fillUp(made);
            }
        }
        for (int k = 0; k < 128; k++) {
            made.add(0);
        }
        if (made.size() > 64 * maxBlocks) {
            return TarArchive.ERR_ARCHIVE_FULL;
        }
        archive = made;
        return made.size() / 64;
    }

    private static void fillUp(List<Integer> bytes) {
        while (bytes.size() % 64 != 0) {
            bytes.add(0);
        }
    }

    /** The block as a text of 64 characters, or null if the archive does not hold it whole. */
    private String block(int b) {
        if (64 * (b + 1) > archive.size()) {
            return null;
        }
        StringBuilder text = new StringBuilder();
        archive.subList(64 * b, 64 * b + 64).forEach(v -> text.append((char) v.intValue()));
        return text.toString();
    }

    private int stop(int b, int error) {
        errorBlock = b;
        return error;
    }

    int extract() {
        List<Node> tree = trees.get(1);
        tree.clear();
        String zero = pad("", 64);
        for (int b = 0;; b++) {
            String h = block(b);
            if (h == null) {
                return stop(b, TarArchive.ERR_TRUNCATED);
            }
            if (h.equals(zero)) {
                String next = block(b + 1);
                if (next == null) {
                    return stop(b + 1, TarArchive.ERR_TRUNCATED);
                }
                return next.equals(zero) ? stop(-1, tree.size()) : stop(b + 1, TarArchive.ERR_BAD_END);
            }
            Node made = new Node();
            int fault = readHeader(h, made, tree);
            if (fault < 0) {
                return stop(b, fault);
            }
            if (fault > 0) {
                String data = block(b + 1);
                if (data == null) {
                    return stop(b + 1, TarArchive.ERR_TRUNCATED);
                }
                if (!data.substring(fault).matches("\0*")) {
                    return stop(b + 1, TarArchive.ERR_PADDING);
                }
                data.substring(0, fault).chars().forEach(made.content::add);
                b++;
            }
            tree.add(made);
        }
    }

    private static boolean wellFormed(String field) {
        return field.matches("(?s)[^\0]*\0*");
    }

    private static String text(String field) {
        return field.replaceAll("(?s)\0.*", "");
    }

    /** Fills the node from the header; answers the size of its data, or the error. */
    private int readHeader(String h, Node made, List<Node> tree) {
        String sum = h.substring(20, 26);
        int due = (h.substring(0, 20) + "      " + h.substring(26)).chars().sum();
        if (!sum.matches("[0-7]{5}\0") || Integer.parseInt(sum.substring(0, 5), 8) != due) {
            return TarArchive.ERR_CHECKSUM;
        }
        if (!h.startsWith("ustar\00000", 39)) {
            return TarArchive.ERR_MAGIC;
        }
        made.kind = switch (h.charAt(26)) {
            case '0' -> TarArchive.KIND_FILE;
            case '1' -> TarArchive.KIND_LINK;
            case '5' -> TarArchive.KIND_DIR;
            default -> 0;
        };
        if (made.kind == 0) {
            return TarArchive.ERR_TYPE;
        }
        if (!h.substring(12, 20).matches("[0-7]{3}\0[0-7]{3}\0") || !h.endsWith(pad("", 7))) {
            return TarArchive.ERR_FIELD;
        }
        made.mode = Integer.parseInt(h.substring(12, 15), 8);
        int size = Integer.parseInt(h.substring(16, 19), 8);
        if (made.kind != TarArchive.KIND_FILE && size != 0) {
            return TarArchive.ERR_FIELD;
        }
        if (size > 32) {
            return TarArchive.ERR_TOO_BIG;
        }
        int fault = place(h, made, tree);
        return fault < 0 ? fault : size;
    }

    private int place(String h, Node made, List<Node> tree) {
        String name = h.substring(0, 12);
        String prefix = h.substring(47, 57);
        String path = text(prefix).isEmpty() ? text(name) : text(prefix) + "/" + text(name);
        if (!wellFormed(name) || !wellFormed(prefix) || !path.matches("[a-z0-9_]{1,4}(/[a-z0-9_]{1,4}){0,5}")) {
            return TarArchive.ERR_NAME;
        }
        if (tree.size() == maxNodes) {
            return TarArchive.ERR_TOO_MANY;
        }
        int slash = path.lastIndexOf('/');
        made.name = path.substring(slash + 1);
        if (slash >= 0) {
            made.parent = byPath(tree, path.substring(0, slash));
            if (made.parent == null || made.parent.kind != TarArchive.KIND_DIR) {
                return TarArchive.ERR_PARENT;
            }
        }
        if (byPath(tree, path) != null) {
            return TarArchive.ERR_DUPLICATE;
        }
        String link = h.substring(27, 39);
        if (made.kind != TarArchive.KIND_LINK) {
            return link.equals(pad("", 12)) ? 0 : TarArchive.ERR_LINK;
        }
        Node named = byPath(tree, text(link));
        if (!wellFormed(link) || named == null || named.kind == TarArchive.KIND_DIR) {
            return TarArchive.ERR_LINK;
        }
        made.target = named.file();
        return 0;
    }

    int errorBlock() {
        return errorBlock;
    }

    int archiveLength() {
        return archive.size();
    }

    int archiveByte(int pos) {
        return pos >= 0 && pos < archive.size() ? archive.get(pos) : TarArchive.ERR_ARG;
    }

    int pokeArchive(int pos, int value) {
        boolean good = pos >= 0 && pos < archive.size() && value >= 0 && value <= 255;
        return good ? archive.set(pos, value) : TarArchive.ERR_ARG;
    }

    int truncateArchive(int len) {
        if (len < 0 || len > archive.size()) {
            return TarArchive.ERR_ARG;
        }
        archive = new ArrayList<>(archive.subList(0, len));
        return len;
    }

    int appendArchive(int value) {
        if (value < 0 || value > 255) {
            return TarArchive.ERR_ARG;
        }
        if (archive.size() == 64 * maxBlocks) {
            return TarArchive.ERR_FULL;
        }
        archive.add(value);
        return archive.size();
    }

    int nodeCount(int t) {
        return t == 0 || t == 1 ? trees.get(t).size() : TarArchive.ERR_ARG;
    }

    int nodeInfo(int t, int i, int what) {
        Node n = t == 0 || t == 1 ? at(trees.get(t), i) : null;
        if (n == null) {
            return TarArchive.ERR_ARG;
        }
        return switch (what) {
            case TarArchive.INFO_KIND -> n.kind;
            case TarArchive.INFO_PARENT -> trees.get(t).indexOf(n.parent);
            case TarArchive.INFO_NAME -> Kit.name(n.name);
            case TarArchive.INFO_MODE -> n.file().mode;
            case TarArchive.INFO_SIZE -> n.file().content.size();
            case TarArchive.INFO_LINK -> trees.get(t).indexOf(n.target);
            default -> TarArchive.ERR_ARG;
        };
    }

    int nodeByte(int t, int i, int k) {
        Node n = t == 0 || t == 1 ? at(trees.get(t), i) : null;
        if (n == null || k < 0 || k >= n.file().content.size()) {
            return TarArchive.ERR_ARG;
        }
        return n.file().content.get(k);
    }
}
