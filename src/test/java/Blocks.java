/** Blocks made by hand, and what extract() makes of them. */
class Blocks {
    static final int[] END = Kit.zeros();

    /** Extracts these blocks and checks the answer, errorBlock() and the nodes that remain. */
    static TarArchive read(String what, int want, int block, int nodes, int[]... blocks) {
        TarArchive x = new TarArchive(8, 12);
        Kit.file(x, -1, "src");
        Kit.load(x, blocks);
        extract(x, what, want, block, nodes);
        return x;
    }

    static void extract(TarArchive x, String what, int want, int block, int nodes) {
        String beside = Kit.besideExtracted(x);
        Kit.due("extract() with " + what, x.extract(), want);
        Kit.due("errorBlock() with " + what, x.errorBlock(), block);
        Kit.due("nodeCount(1) with " + what, x.nodeCount(1), nodes);
        Kit.due("archive and source with " + what, Kit.besideExtracted(x), beside);
    }

    static int[] dir(String path) {
        return Kit.header(path, '5', 0, "");
    }

    static int[] file(String path, int size) {
        return Kit.header(path, '0', size, "");
    }

    static int[] link(String path, String target) {
        return Kit.header(path, '1', 0, target);
    }

    /** The header with one byte changed and the checksum made right again. */
    static int[] with(int[] header, int at, int value) {
        int[] block = header.clone();
        block[at] = value;
        return Kit.seal(block);
    }

    static int[] withText(int[] header, int at, String text) {
        return Kit.seal(Kit.put(header.clone(), at, text));
    }

    /** A block of which only the byte at this place is not 0. */
    static int[] speck(int at) {
        int[] block = Kit.zeros();
        block[at] = 1;
        return block;
    }
}
