/** Promise 3. */
public final class AppendDataTest {
    public static void main(String[] args) {
        ordinary();
        wrongInputs();
        full();
        order();
        restUntouched();
        Kit.end(AppendDataTest.class);
    }

    private static TarArchive twoFiles() {
        TarArchive x = new TarArchive(8, 12);
        Kit.dir(x, -1, "d");
        Kit.file(x, 0, "f");
        Kit.file(x, -1, "g");
        Kit.link(x, -1, "l", 1);
        Kit.link(x, -1, "m", 3);
        return x;
    }

    private static void append(TarArchive x, int node, int value, int want) {
        String call = "appendData(" + node + ", " + value + ")";
        if (want < 0) {
            Kit.refused(x, call, () -> x.appendData(node, value), want);
        } else {
            Kit.due(call, x.appendData(node, value), want);
        }
    }

    private static void ordinary() {
        TarArchive x = twoFiles();
        append(x, 1, 0, 1);
        append(x, 3, 255, 2);
        append(x, 2, 9, 1);
        append(x, 4, 128, 3);
        append(x, 1, 1, 4);
        String bytes = "| -2 0 255 128 1 -2]";
        Kit.due("the tree", Kit.tree(x, 0), "5: [3 -1 100 493 0 -1 | -2 -2] [1 0 102 420 4 -1 " + bytes
            + " [1 -1 103 420 1 -1 | -2 9 -2] [2 -1 108 420 4 1 " + bytes + " [2 -1 109 420 4 1 " + bytes);
    }

    private static void wrongInputs() {
        TarArchive x = twoFiles();
        for (int node : new int[] {Integer.MIN_VALUE, -2, -1, 5, 7, 8, 9, 16, Integer.MAX_VALUE}) {
            append(x, node, 1, TarArchive.ERR_ARG);
        }
        append(new TarArchive(8, 12), 0, 1, TarArchive.ERR_ARG);
        append(x, 0, 1, TarArchive.ERR_KIND);
        for (int value : new int[] {Integer.MIN_VALUE, -1, 256, 257, Integer.MAX_VALUE}) {
            append(x, 1, value, TarArchive.ERR_ARG);
            append(x, 4, value, TarArchive.ERR_ARG);
        }
    }

    private static void full() {
        TarArchive x = twoFiles();
        for (int k = 1; k <= 32; k++) {
            append(x, k % 2 == 0 ? 1 : 4, k, k);
        }
        append(x, 1, 0, TarArchive.ERR_FULL);
        append(x, 3, 0, TarArchive.ERR_FULL);
        append(x, 4, 0, TarArchive.ERR_FULL);
        append(x, 2, 0, 1);
        for (int k = 0; k < 32; k++) {
            Kit.due("nodeByte(0, 1, " + k + ")", x.nodeByte(0, 1, k), k + 1);
        }
    }

    private static void order() {
        TarArchive x = twoFiles();
        Kit.fill(x, 1, 32);
        append(x, 5, -1, TarArchive.ERR_ARG);
        append(x, 0, -1, TarArchive.ERR_KIND);
        append(x, 1, -1, TarArchive.ERR_ARG);
        append(x, 3, 256, TarArchive.ERR_ARG);
        append(x, 3, 255, TarArchive.ERR_FULL);
    }

    private static void restUntouched() {
        TarArchive x = twoFiles();
        Kit.fill(x, 1, 3);
        x.create();
        x.extract();
        x.truncateArchive(70);
        x.extract();
        String rest = Kit.tree(x, 1) + Kit.archive(x) + x.errorBlock();
        append(x, 1, 5, 4);
        append(x, 2, 5, 1);
        append(x, 3, 5, 5);
        Kit.due("the rest", Kit.tree(x, 1) + Kit.archive(x) + x.errorBlock(), rest);
    }
}
