/**
 * A miniature ustar archive writer and streaming reader: a source tree, an
 * archive of bytes and an extracted tree, all held in one object.
 */
public final class TarArchive {
    public static final int BLOCK = 64;
    public static final int MAX_FILE = 32;
    public static final int MAX_DEPTH = 6;
    public static final int NAME_LEN = 12;
    public static final int PREFIX_LEN = 10;
    public static final int LINK_LEN = 12;

    public static final int KIND_FILE = 1;
    public static final int KIND_LINK = 2;
    public static final int KIND_DIR = 3;

    public static final int INFO_KIND = 0;
    public static final int INFO_PARENT = 1;
    public static final int INFO_NAME = 2;
    public static final int INFO_MODE = 3;
    public static final int INFO_SIZE = 4;
    public static final int INFO_LINK = 5;

    public static final int ERR_ARG = -2;
    public static final int ERR_FULL = -3;
    public static final int ERR_KIND = -4;
    public static final int ERR_NAME = -5;
    public static final int ERR_PARENT = -6;
    public static final int ERR_DEPTH = -7;
    public static final int ERR_DUPLICATE = -8;
    public static final int ERR_MODE = -9;
    public static final int ERR_LINK = -10;
    public static final int ERR_NAME_TOO_LONG = -11;
    public static final int ERR_ARCHIVE_FULL = -12;
    public static final int ERR_TRUNCATED = -13;
    public static final int ERR_BAD_END = -14;
    public static final int ERR_CHECKSUM = -15;
    public static final int ERR_MAGIC = -16;
    public static final int ERR_TYPE = -17;
    public static final int ERR_FIELD = -18;
    public static final int ERR_TOO_BIG = -19;
    public static final int ERR_TOO_MANY = -20;
    public static final int ERR_PADDING = -21;

    private static final int SOURCE = 0;
    private static final int EXTRACTED = 1;
    private static final int TREES = 2;

    private static final int LEAST_NODES = 2;
    private static final int MOST_NODES = 8;
    private static final int LEAST_BLOCKS = 4;
    private static final int MOST_BLOCKS = 12;
    private static final int NODE_SLOTS = TREES * MOST_NODES;
    private static final int CONTENT_SLOTS = NODE_SLOTS * MAX_FILE;
    private static final int ARCHIVE_BYTES = MOST_BLOCKS * BLOCK;

    private static final int NAME_BYTES = 4;
    // The longest path is a source node's: MAX_DEPTH names and the slashes
    // between them. A header's prefix, slash and name together are shorter.
    private static final int PATH_BYTES = MAX_DEPTH * (NAME_BYTES + 1);
    private static final int MOST_MODE = 511;

    private static final int AT_NAME = 0;
    private static final int AT_MODE = 12;
    private static final int AT_SIZE = 16;
    private static final int AT_CHKSUM = 20;
    private static final int AT_TYPE = 26;
    private static final int AT_LINK = 27;
    private static final int AT_MAGIC = 39;
    private static final int AT_PREFIX = 47;
    private static final int AT_REST = 57;

    private static final int SHORT_DIGITS = 3;
    private static final int CHKSUM_DIGITS = 5;
    private static final int SPACE = 32;

    // 'u','s','t','a','r',0,'0','0', the first byte lowest.
    private static final long MAGIC = 0x3030007261747375L;
    private static final int MAGIC_LEN = 8;

    private static final int TOP = -1;
    private static final int NO_NODE = -2;
    private static final int NO_NAME = 0;
    private static final int NO_PREFIX = -1;
    private static final int NO_SPLIT = -2;
    private static final int NOT_OCTAL = -1;
    private static final int NO_FAULT = 0;

    private final int maxNodes;
    private final int maxBlocks;

    // Node i of tree t has its items at t * MOST_NODES + i.
    private final int[] counts = new int[TREES];
    private final int[] kinds = new int[NODE_SLOTS];
    private final int[] parents = new int[NODE_SLOTS];
    private final int[] names = new int[NODE_SLOTS];
    private final int[] modes = new int[NODE_SLOTS];
    private final int[] sizes = new int[NODE_SLOTS];
    private final int[] targets = new int[NODE_SLOTS];
    private final int[] contents = new int[CONTENT_SLOTS];

    private final int[] archive = new int[ARCHIVE_BYTES];
    private int length;
    private int lastErrorBlock;

    // Scratch: the path that create() or extract() is at work on.
    private final int[] path = new int[PATH_BYTES];

    // Scratch: what entryFault found out about the header being extracted.
    private int entryParent;
    private int entryName;
    private int entryTarget;

    public TarArchive(int maxNodes, int maxBlocks) {
        this.maxNodes = clamp(maxNodes, LEAST_NODES, MOST_NODES);
        this.maxBlocks = clamp(maxBlocks, LEAST_BLOCKS, MOST_BLOCKS);
        this.lastErrorBlock = -1;
    }

    public int addNode(int parent, int kind, int name, int modeOrTarget) {
        int count = counts[SOURCE];
        if (count >= maxNodes) {
            return ERR_FULL;
        }
        if (kind != KIND_DIR && kind != KIND_FILE && kind != KIND_LINK) {
            return ERR_KIND;
        }
        if (!isValidName(name)) {
            return ERR_NAME;
        }
        if (parent != TOP && !isDir(SOURCE, parent)) {
            return ERR_PARENT;
        }
        if (sourceDepth(parent) >= MAX_DEPTH) {
            return ERR_DEPTH;
        }
        if (findChild(SOURCE, parent, name) != NO_NODE) {
            return ERR_DUPLICATE;
        }
        if (kind == KIND_LINK) {
            int target = fileBehind(SOURCE, modeOrTarget);
            if (target == NO_NODE) {
                return ERR_LINK;
            }
            putNode(SOURCE, kind, parent, name, 0, target);
            return count;
        }
        if (modeOrTarget < 0 || modeOrTarget > MOST_MODE) {
            return ERR_MODE;
        }
        putNode(SOURCE, kind, parent, name, modeOrTarget, -1);
        return count;
    }

    public int appendData(int node, int value) {
        if (!isNode(SOURCE, node)) {
            return ERR_ARG;
        }
        int file = fileBehind(SOURCE, node);
        if (file == NO_NODE) {
            return ERR_KIND;
        }
        if (!isByte(value)) {
            return ERR_ARG;
        }
        int size = sizes[file];
        if (size >= MAX_FILE) {
            return ERR_FULL;
        }
        contents[file * MAX_FILE + size] = value;
        sizes[file] = size + 1;
        return size + 1;
    }

    public int create() {
        int count = counts[SOURCE];
        for (int i = 0; i < count; i++) {
            if (!pathsFit(i)) {
                return ERR_NAME_TOO_LONG;
            }
        }
        int blocks = blocksNeeded();
        if (blocks > maxBlocks) {
            return ERR_ARCHIVE_FULL;
        }
        length = blocks * BLOCK;
        clearArchive();
        int at = 0;
        for (int i = 0; i < count; i++) {
            writeHeader(i, at);
            at += BLOCK;
            if (sizes[i] > 0) {
                writeData(i, at);
                at += BLOCK;
            }
        }
        return blocks;
    }

    public int extract() {
        counts[EXTRACTED] = 0;
        for (int b = 0; b < maxBlocks; b++) {
            int at = b * BLOCK;
            if (!isWhole(b)) {
                return stopAt(b, ERR_TRUNCATED);
            }
            if (isZero(at, at + BLOCK)) {
                return finishAt(b);
            }
            int fault = headerFault(at);
            if (fault == NO_FAULT) {
                fault = entryFault(at);
            }
            if (fault != NO_FAULT) {
                return stopAt(b, fault);
            }
            int size = octalValue(at + AT_SIZE, SHORT_DIGITS);
            if (size > 0) {
                fault = dataFault(b + 1, size);
                if (fault != NO_FAULT) {
                    return stopAt(b + 1, fault);
                }
            }
            putEntry(at, size);
            if (size > 0) {
                b++;
            }
        }
        // A full archive without its end: there is no block after the last.
        return stopAt(maxBlocks, ERR_TRUNCATED);
    }

    public int errorBlock() {
        return lastErrorBlock;
    }

    public int archiveLength() {
        return length;
    }

    public int archiveByte(int pos) {
        if (pos < 0 || pos >= length) {
            return ERR_ARG;
        }
        return archive[pos];
    }

    public int pokeArchive(int pos, int value) {
        if (pos < 0 || pos >= length || !isByte(value)) {
            return ERR_ARG;
        }
        int previous = archive[pos];
        archive[pos] = value;
        return previous;
    }

    public int truncateArchive(int len) {
        if (len < 0 || len > length) {
            return ERR_ARG;
        }
        length = len;
        return len;
    }

    public int appendArchive(int value) {
        if (!isByte(value)) {
            return ERR_ARG;
        }
        if (length >= maxBlocks * BLOCK) {
            return ERR_FULL;
        }
        archive[length] = value;
        length++;
        return length;
    }

    public int nodeCount(int t) {
        if (!isTree(t)) {
            return ERR_ARG;
        }
        return counts[t];
    }

    public int nodeInfo(int t, int i, int what) {
        if (!isTree(t) || !isNode(t, i)) {
            return ERR_ARG;
        }
        int slot = t * MOST_NODES + i;
        int owner = contentSlot(t, i);
        switch (what) {
            case INFO_KIND:
                return kinds[slot];
            case INFO_PARENT:
                return parents[slot];
            case INFO_NAME:
                return names[slot];
            case INFO_MODE:
                return modes[owner];
            case INFO_SIZE:
                return sizes[owner];
            case INFO_LINK:
                return targets[slot];
            default:
                return ERR_ARG;
        }
    }

    public int nodeByte(int t, int i, int k) {
        if (!isTree(t) || !isNode(t, i)) {
            return ERR_ARG;
        }
        // A DIR's size is 0, so that no k passes for it.
        int owner = contentSlot(t, i);
        if (k < 0 || k >= sizes[owner]) {
            return ERR_ARG;
        }
        return contents[owner * MAX_FILE + k];
    }

    private static int clamp(int value, int least, int most) {
        if (value < least) {
            return least;
        }
        return value > most ? most : value;
    }

    private static boolean isByte(int value) {
        return value >= 0 && value <= 255;
    }

    private static boolean isNameChar(int c) {
        return c >= 'a' && c <= 'z' || c >= '0' && c <= '9' || c == '_';
    }

    private static int nameByte(int name, int k) {
        return (name >>> (8 * k)) & 255;
    }

    private static int nameLength(int name) {
        int n = 0;
        while (n < NAME_BYTES && nameByte(name, n) != 0) {
            n++;
        }
        return n;
    }

    private static boolean isValidName(int name) {
        int n = nameLength(name);
        for (int k = 0; k < n; k++) {
            int c = nameByte(name, k);
            if (!isNameChar(c)) {
                return false;
            }
        }
        for (int k = n; k < NAME_BYTES; k++) {
            if (nameByte(name, k) != 0) {
                return false;
            }
        }
        return n >= 1;
    }

    /** The packed name of text[from..to-1], or NO_NAME if that is no valid name text. */
    private static int packName(int[] text, int from, int to) {
        if (to - from < 1 || to - from > NAME_BYTES) {
            return NO_NAME;
        }
        int name = 0;
        for (int k = from; k < to; k++) {
            int c = text[k];
            if (!isNameChar(c)) {
                return NO_NAME;
            }
            name |= c << (8 * (k - from));
        }
        return name;
    }

    private static boolean isTree(int t) {
        return t == SOURCE || t == EXTRACTED;
    }

    private boolean isNode(int t, int i) {
        return i >= 0 && i < counts[t];
    }

    private boolean isDir(int t, int i) {
        return isNode(t, i) && kinds[t * MOST_NODES + i] == KIND_DIR;
    }

    /** The FILE that node i is or links to, or NO_NODE if i is neither FILE nor LINK. */
    private int fileBehind(int t, int i) {
        if (!isNode(t, i) || isDir(t, i)) {
            return NO_NODE;
        }
        int slot = t * MOST_NODES + i;
        return kinds[slot] == KIND_LINK ? targets[slot] : i;
    }

    /** The slot that holds the mode, size and bytes seen through node i. */
    private int contentSlot(int t, int i) {
        int slot = t * MOST_NODES + i;
        return kinds[slot] == KIND_LINK ? t * MOST_NODES + targets[slot] : slot;
    }

    private int findChild(int t, int parent, int name) {
        int base = t * MOST_NODES;
        for (int i = 0; i < counts[t]; i++) {
            if (parents[base + i] == parent && names[base + i] == name) {
                return i;
            }
        }
        return NO_NODE;
    }

    private void putNode(int t, int kind, int parent, int name, int mode, int target) {
        int slot = t * MOST_NODES + counts[t];
        kinds[slot] = kind;
        parents[slot] = parent;
        names[slot] = name;
        modes[slot] = mode;
        sizes[slot] = 0;
        targets[slot] = target;
        counts[t]++;
    }

    private int sourceDepth(int node) {
        int depth = 0;
        int at = node;
        while (depth < MAX_DEPTH && at != TOP) {
            at = parents[at];
            depth++;
        }
        return depth;
    }

    private int sourcePathLength(int node) {
        int total = 0;
        int at = node;
        for (int d = 0; d < MAX_DEPTH && at != TOP; d++) {
            int slash = d > 0 ? 1 : 0;
            total += nameLength(names[at]) + slash;
            at = parents[at];
        }
        return total;
    }

    /** Puts a source node's path into the scratch path and answers its length. */
    private int loadSourcePath(int node) {
        int total = sourcePathLength(node);
        int end = total;
        int at = node;
        for (int d = 0; d < MAX_DEPTH && at != TOP; d++) {
            int n = nameLength(names[at]);
            int start = end - n;
            for (int k = 0; k < n; k++) {
                path[start + k] = nameByte(names[at], k);
            }
            if (start > 0) {
                path[start - 1] = '/';
            }
            end = start - 1;
            at = parents[at];
        }
        return total;
    }

    /**
     * Where the loaded path splits into prefix and name: the place of the
     * slash, NO_PREFIX if the name field holds it whole, or NO_SPLIT.
     */
    private int splitPlace(int pathLength) {
        if (pathLength <= NAME_LEN) {
            return NO_PREFIX;
        }
        for (int s = pathLength - NAME_LEN - 1; s <= PREFIX_LEN; s++) {
            if (path[s] == '/') {
                return s;
            }
        }
        return NO_SPLIT;
    }

    private boolean pathsFit(int node) {
        int pathLength = loadSourcePath(node);
        if (splitPlace(pathLength) == NO_SPLIT) {
            return false;
        }
        return kinds[node] != KIND_LINK || sourcePathLength(targets[node]) <= LINK_LEN;
    }

    private int blocksNeeded() {
        int blocks = counts[SOURCE] + 2;
        for (int i = 0; i < counts[SOURCE]; i++) {
            if (sizes[i] > 0) {
                blocks++;
            }
        }
        return blocks;
    }

    private void clearArchive() {
        for (int pos = 0; pos < ARCHIVE_BYTES; pos++) {
            archive[pos] = 0;
        }
    }

    /** Writes a node's header over a block of 0s. */
    private void writeHeader(int node, int at) {
        int pathLength = loadSourcePath(node);
        int split = splitPlace(pathLength);
        writePath(0, split, at + AT_PREFIX);
        writePath(split + 1, pathLength, at + AT_NAME);
        if (kinds[node] == KIND_LINK) {
            int linkLength = loadSourcePath(targets[node]);
            writePath(0, linkLength, at + AT_LINK);
        }
        writeOctal(modes[node], SHORT_DIGITS, at + AT_MODE);
        writeOctal(sizes[node], SHORT_DIGITS, at + AT_SIZE);
        archive[at + AT_TYPE] = typeflag(kinds[node]);
        for (int k = 0; k < MAGIC_LEN; k++) {
            archive[at + AT_MAGIC + k] = magicByte(k);
        }
        int sum = checksum(at);
        writeOctal(sum, CHKSUM_DIGITS, at + AT_CHKSUM);
    }

    private void writeData(int node, int at) {
        for (int k = 0; k < sizes[node]; k++) {
            archive[at + k] = contents[node * MAX_FILE + k];
        }
    }

    private void writePath(int from, int to, int at) {
        for (int k = from; k < to; k++) {
            archive[at + k - from] = path[k];
        }
    }

    private void writeOctal(int value, int digits, int at) {
        int rest = value;
        for (int k = digits - 1; k >= 0; k--) {
            archive[at + k] = '0' + (rest & 7);
            rest >>>= 3;
        }
    }

    private static int typeflag(int kind) {
        if (kind == KIND_DIR) {
            return '5';
        }
        return kind == KIND_LINK ? '1' : '0';
    }

    private static int kindOf(int typeflag) {
        if (typeflag == '5') {
            return KIND_DIR;
        }
        return typeflag == '1' ? KIND_LINK : KIND_FILE;
    }

    private static int magicByte(int k) {
        return (int) (MAGIC >>> (8 * k)) & 255;
    }

    private int checksum(int at) {
        int sum = 0;
        for (int k = 0; k < BLOCK; k++) {
            boolean ownField = k >= AT_CHKSUM && k < AT_TYPE;
            sum += ownField ? SPACE : archive[at + k];
        }
        return sum;
    }

    private boolean isWhole(int b) {
        return BLOCK * (b + 1) <= length;
    }

    private boolean isZero(int from, int to) {
        for (int pos = from; pos < to; pos++) {
            if (archive[pos] != 0) {
                return false;
            }
        }
        return true;
    }

    private int stopAt(int b, int error) {
        lastErrorBlock = b;
        return error;
    }

    /** Ends an extraction that met the first zero block at b. */
    private int finishAt(int b) {
        int next = b + 1;
        if (!isWhole(next)) {
            return stopAt(next, ERR_TRUNCATED);
        }
        if (!isZero(next * BLOCK, next * BLOCK + BLOCK)) {
            return stopAt(next, ERR_BAD_END);
        }
        lastErrorBlock = -1;
        return counts[EXTRACTED];
    }

    /** The value of so many octal digits, or NOT_OCTAL if they are not followed by a 0 byte. */
    private int octalValue(int at, int digits) {
        int value = 0;
        for (int k = 0; k < digits; k++) {
            int c = archive[at + k];
            if (c < '0' || c > '7') {
                return NOT_OCTAL;
            }
            value = value * 8 + c - '0';
        }
        return archive[at + digits] == 0 ? value : NOT_OCTAL;
    }

    /** What is wrong with the header at this place, whatever has been extracted before. */
    private int headerFault(int at) {
        // No sum is below 0, so that NOT_OCTAL never equals one.
        if (octalValue(at + AT_CHKSUM, CHKSUM_DIGITS) != checksum(at)) {
            return ERR_CHECKSUM;
        }
        if (!hasMagic(at)) {
            return ERR_MAGIC;
        }
        int type = archive[at + AT_TYPE];
        if (type != '0' && type != '1' && type != '5') {
            return ERR_TYPE;
        }
        int mode = octalValue(at + AT_MODE, SHORT_DIGITS);
        int size = octalValue(at + AT_SIZE, SHORT_DIGITS);
        if (mode == NOT_OCTAL || size == NOT_OCTAL || !isZero(at + AT_REST, at + BLOCK)) {
            return ERR_FIELD;
        }
        if (type != '0' && size != 0) {
            return ERR_FIELD;
        }
        return size > MAX_FILE ? ERR_TOO_BIG : NO_FAULT;
    }

    private boolean hasMagic(int at) {
        for (int k = 0; k < MAGIC_LEN; k++) {
            if (archive[at + AT_MAGIC + k] != magicByte(k)) {
                return false;
            }
        }
        return true;
    }

    /**
     * What keeps the header at this place out of the extracted tree. If it is
     * nothing, the entry fields hold where the node belongs.
     */
    private int entryFault(int at) {
        int nameSize = textLength(at + AT_NAME, NAME_LEN);
        int prefixSize = textLength(at + AT_PREFIX, PREFIX_LEN);
        if (!isZero(at + AT_NAME + nameSize, at + AT_NAME + NAME_LEN)
                || !isZero(at + AT_PREFIX + prefixSize, at + AT_PREFIX + PREFIX_LEN)) {
            return ERR_NAME;
        }
        int pathLength = loadHeaderPath(at, prefixSize, nameSize);
        if (!isValidPath(pathLength)) {
            return ERR_NAME;
        }
        if (counts[EXTRACTED] >= maxNodes) {
            return ERR_TOO_MANY;
        }
        int lastStart = lastNameStart(pathLength);
        entryParent = lastStart == 0 ? TOP : findPath(path, 0, lastStart - 1);
        if (entryParent != TOP && !isDir(EXTRACTED, entryParent)) {
            return ERR_PARENT;
        }
        entryName = packName(path, lastStart, pathLength);
        if (findChild(EXTRACTED, entryParent, entryName) != NO_NODE) {
            return ERR_DUPLICATE;
        }
        return linkFault(at);
    }

    private int linkFault(int at) {
        int link = at + AT_LINK;
        entryTarget = -1;
        if (archive[at + AT_TYPE] != '1') {
            return isZero(link, link + LINK_LEN) ? NO_FAULT : ERR_LINK;
        }
        int linkSize = textLength(link, LINK_LEN);
        if (!isZero(link + linkSize, link + LINK_LEN)) {
            return ERR_LINK;
        }
        int named = findPath(archive, link, link + linkSize);
        entryTarget = fileBehind(EXTRACTED, named);
        return entryTarget == NO_NODE ? ERR_LINK : NO_FAULT;
    }

    private int dataFault(int b, int size) {
        if (!isWhole(b)) {
            return ERR_TRUNCATED;
        }
        return isZero(b * BLOCK + size, b * BLOCK + BLOCK) ? NO_FAULT : ERR_PADDING;
    }

    private void putEntry(int at, int size) {
        int slot = EXTRACTED * MOST_NODES + counts[EXTRACTED];
        int kind = kindOf(archive[at + AT_TYPE]);
        int mode = octalValue(at + AT_MODE, SHORT_DIGITS);
        putNode(EXTRACTED, kind, entryParent, entryName, mode, entryTarget);
        sizes[slot] = size;
        for (int k = 0; k < size; k++) {
            contents[slot * MAX_FILE + k] = archive[at + BLOCK + k];
        }
    }

    private int textLength(int at, int fieldSize) {
        int n = 0;
        while (n < fieldSize && archive[at + n] != 0) {
            n++;
        }
        return n;
    }

    /** Puts a header's path into the scratch path and answers its length. */
    private int loadHeaderPath(int at, int prefixSize, int nameSize) {
        int nameStart = 0;
        if (prefixSize > 0) {
            for (int k = 0; k < prefixSize; k++) {
                path[k] = archive[at + AT_PREFIX + k];
            }
            path[prefixSize] = '/';
            nameStart = prefixSize + 1;
        }
        for (int k = 0; k < nameSize; k++) {
            path[nameStart + k] = archive[at + AT_NAME + k];
        }
        return nameStart + nameSize;
    }

    private boolean isValidPath(int pathLength) {
        int components = 0;
        int start = 0;
        for (int k = 0; k <= pathLength; k++) {
            if (k == pathLength || path[k] == '/') {
                if (packName(path, start, k) == NO_NAME) {
                    return false;
                }
                components++;
                start = k + 1;
            }
        }
        return components <= MAX_DEPTH;
    }

    private int lastNameStart(int pathLength) {
        int start = pathLength;
        while (start > 0 && path[start - 1] != '/') {
            start--;
        }
        return start;
    }

    /** The extracted node whose path is text[from..to-1], or NO_NODE. */
    private int findPath(int[] text, int from, int to) {
        int node = TOP;
        int start = from;
        for (int k = from; k <= to; k++) {
            if (k == to || text[k] == '/') {
                int name = packName(text, start, k);
                node = findChild(EXTRACTED, node, name);
                // No node bears NO_NAME, so that a bad component ends here too.
                if (node == NO_NODE) {
                    return NO_NODE;
                }
                start = k + 1;
            }
        }
        return node;
    }
}
