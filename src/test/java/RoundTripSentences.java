/** Promise 5: the round trip. */
final class RoundTripSentences extends Sentences {
    private RoundTripSentences() {
    }

    static void run() {
        section("Promise 5: extract and errorBlock");
        says("Round trip: if `create()` answers B >= 0 and the next call other than a getter is `extract()`, then `extract()` "
            + "answers `nodeCount(0)`;", RoundTripSentences::answers);
        says("afterwards `errorBlock()` == -1, `nodeCount(1)` == `nodeCount(0)`, and for every node i, every what in 0..5 and "
            + "every k, `nodeInfo(1,i,what)` == `nodeInfo(0,i,what)` and `nodeByte(1,i,k)` == `nodeByte(0,i,k)`.",
            RoundTripSentences::equalTrees);
        says("Names, kinds, parents, modes, contents and hard-link target indices are all equal.", RoundTripSentences::equalNodes);
        says("Moreover, if after a successful `create()`, with only getter calls in between, exactly one `pokeArchive(p,v)` is "
            + "made with p in 0..L-1 and v in 0..255, where v differs from the byte at p, and p is not among the first s bytes "
            + "of the data block that directly follows the header of a FILE with content size s, and the next call other than a "
            + "getter is `extract()`, then that `extract()` answers a negative code.", RoundTripSentences::spoilt);
        says("This holds for any header byte,", RoundTripSentences::headerBytes);
        says("any padding byte", RoundTripSentences::paddingBytes);
        says("and any byte of the two end blocks.", RoundTripSentences::endBytes);
    }

    private static TarArchive[] objects() {
        return new TarArchive[] {RoundTripTest.empty(), RoundTripTest.flat(), RoundTripTest.deep(), RoundTripTest.linked(),
            RoundTripTest.crowded(), full(), least()};
    }

    /** As many nodes and blocks as there can be, at every depth. */
    private static TarArchive full() {
        TarArchive x = Kit.chain("a/b/c/d/e");
        Kit.file(x, 4, "f");
        Kit.file(x, -1, "g");
        Kit.link(x, 4, "h", 5);
        Kit.fill(x, 5, 32);
        Kit.fill(x, 6, 1);
        return x;
    }

    /** The least capacities, filled. */
    private static TarArchive least() {
        TarArchive x = new TarArchive(MIN, MIN);
        x.addNode(-1, TarArchive.KIND_FILE, Kit.name("____"), 511);
        x.addNode(-1, TarArchive.KIND_LINK, Kit.name("9"), 0);
        return x;
    }

    private static void answers() {
        for (TarArchive x : objects()) {
            x.extract();
            Kit.due("create() answers blocks", x.create() >= 2 ? 1 : 0, 1);
            Kit.all(x);
            Kit.due("extract()", x.extract(), x.nodeCount(0));
        }
    }

    private static void equalTrees() {
        for (TarArchive x : objects()) {
            x.extract();
            x.create();
            Kit.all(x);
            x.extract();
            Kit.due("errorBlock()", x.errorBlock(), -1);
            Kit.due("nodeCount(1)", x.nodeCount(1), x.nodeCount(0));
            for (int i = 0; i < x.nodeCount(0); i++) {
                for (int what = 0; what <= 5; what++) {
                    Kit.due("nodeInfo(1, " + i + ", " + what + ")", x.nodeInfo(1, i, what), x.nodeInfo(0, i, what));
                }
                for (int k : new int[] {MIN, -1, 32, 33, 64, MAX}) {
                    Kit.due("nodeByte(1, " + i + ", " + k + ")", x.nodeByte(1, i, k), x.nodeByte(0, i, k));
                }
                for (int k = 0; k < 32; k++) {
                    Kit.due("nodeByte(1, " + i + ", " + k + ")", x.nodeByte(1, i, k), x.nodeByte(0, i, k));
                }
            }
        }
    }

    private static void equalNodes() {
        TarArchive x = new TarArchive(8, 12);
        x.addNode(-1, TarArchive.KIND_DIR, Kit.name("dir"), 0);
        x.addNode(0, TarArchive.KIND_FILE, Kit.name("f"), 511);
        x.addNode(-1, TarArchive.KIND_LINK, Kit.name("l_0"), 1);
        x.appendData(1, 255);
        x.appendData(1, 0);
        x.create();
        x.extract();
        Kit.due("the extracted tree", Kit.tree(x, 1), "3: [3 -1 " + Kit.name("dir") + " 0 0 -1 | -2 -2] [1 0 102 511 2 -1 "
            + "| -2 255 0 -2] [2 -1 " + Kit.name("l_0") + " 511 2 1 | -2 255 0 -2]");
    }

    /** Spoils the byte with each other value in turn; each extraction stops at its block. */
    private static void spoil(TarArchive x, int pos, int step) {
        int old = x.archiveByte(pos);
        for (int value = old % step; value < 256; value += step) {
            if (value != old) {
                x.create();
                Kit.due("a getter in between", x.archiveByte(pos), old);
                x.pokeArchive(pos, value);
                Kit.due("another getter in between", x.archiveByte(pos), value);
                Kit.due("extract() with byte " + pos + " = " + value + " answers an error", x.extract() < 0 ? 1 : 0, 1);
            }
        }
    }

    private static void spoilt() {
        for (TarArchive x : objects()) {
            x.create();
            boolean[] content = RoundTripTest.contentBytes(x);
            for (int pos = 0; pos < x.archiveLength(); pos++) {
                if (!content[pos]) {
                    spoil(x, pos, 16);
                } else {
                    x.create();
                    x.pokeArchive(pos, 255 - x.archiveByte(pos));
                    Kit.due("extract() with other content", x.extract(), x.nodeCount(0));
                }
            }
        }
    }

    private static void headerBytes() {
        TarArchive x = full();
        x.create();
        for (int k = 0; k < 64; k++) {
            spoil(x, k, 1);
            // FILE 5 and LINK 7 stand behind five DIRs, LINK 7 also behind the data of two FILEs.
            spoil(x, 64 * 5 + k, 1);
            spoil(x, 64 * 9 + k, 1);
        }
    }

    private static void paddingBytes() {
        for (int size = 1; size <= 32; size++) {
            TarArchive x = new TarArchive(2, 4);
            Kit.file(x, -1, "f");
            Kit.fill(x, 0, size);
            x.create();
            for (int k = size; k < 64; k++) {
                spoil(x, 64 + k, 5);
            }
        }
    }

    private static void endBytes() {
        for (TarArchive x : objects()) {
            x.create();
            for (int pos = x.archiveLength() - 128; pos < x.archiveLength(); pos++) {
                spoil(x, pos, 3);
            }
        }
    }
}
