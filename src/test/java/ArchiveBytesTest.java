/** Promises 6 to 9: archiveLength, archiveByte, pokeArchive, truncateArchive, appendArchive. */
public final class ArchiveBytesTest {
    private static final int MIN = Integer.MIN_VALUE;
    private static final int MAX = Integer.MAX_VALUE;

    public static void main(String[] args) {
        reading();
        poking();
        truncating();
        appending();
        restUntouched();
        Kit.end(ArchiveBytesTest.class);
    }

    private static TarArchive bytes(int count) {
        TarArchive x = new TarArchive(8, 4);
        for (int pos = 0; pos < count; pos++) {
            x.appendArchive((pos * 7 + 3) & 255);
        }
        return x;
    }

    private static void reading() {
        for (int count : new int[] {0, 1, 64, 100, 255, 256}) {
            TarArchive x = bytes(count);
            String before = Kit.all(x);
            Kit.due("archiveLength()", x.archiveLength(), count);
            for (int pos = 0; pos < count; pos++) {
                Kit.due("archiveByte(" + pos + ")", x.archiveByte(pos), (pos * 7 + 3) & 255);
            }
            for (int pos : new int[] {MIN, -2, -1, count, count + 1, 256, 768, 769, MAX}) {
                Kit.refused(x, "archiveByte(" + pos + ")", () -> x.archiveByte(pos), TarArchive.ERR_ARG);
            }
            Kit.due("the object", Kit.all(x), before);
        }
    }

    private static void poking() {
        TarArchive x = bytes(100);
        for (int pos : new int[] {MIN, -1, 100, 101, 255, 256, 768, MAX}) {
            Kit.refused(x, "pokeArchive(" + pos + ", 1)", () -> x.pokeArchive(pos, 1), TarArchive.ERR_ARG);
        }
        for (int value : new int[] {MIN, -1, 256, MAX}) {
            Kit.refused(x, "pokeArchive(0, " + value + ")", () -> x.pokeArchive(0, value), TarArchive.ERR_ARG);
            Kit.refused(x, "pokeArchive(99, " + value + ")", () -> x.pokeArchive(99, value), TarArchive.ERR_ARG);
        }
        TarArchive none = bytes(0);
        Kit.refused(none, "pokeArchive(0, 0) with L = 0", () -> none.pokeArchive(0, 0), TarArchive.ERR_ARG);
        int[] want = new int[100];
        for (int pos = 0; pos < 100; pos++) {
            want[pos] = (pos * 7 + 3) & 255;
        }
        for (int pos : new int[] {0, 50, 99}) {
            for (int value : new int[] {0, 255, 255, 1, 128}) {
                Kit.due("pokeArchive(" + pos + ", " + value + ")", x.pokeArchive(pos, value), want[pos]);
                want[pos] = value;
                dueBytes(x, want, 100);
            }
        }
    }

    private static void dueBytes(TarArchive x, int[] want, int length) {
        Kit.due("archiveLength()", x.archiveLength(), length);
        for (int pos = 0; pos < length; pos++) {
            Kit.due("archiveByte(" + pos + ")", x.archiveByte(pos), want[pos]);
        }
    }

    private static void truncating() {
        TarArchive x = bytes(100);
        int[] want = Kit.blockAt(bytes(256), 0);
        for (int len : new int[] {MIN, -1, 101, 256, 768, MAX}) {
            Kit.refused(x, "truncateArchive(" + len + ")", () -> x.truncateArchive(len), TarArchive.ERR_ARG);
        }
        String before = Kit.all(x);
        Kit.due("truncateArchive(L)", x.truncateArchive(100), 100);
        Kit.due("the object", Kit.all(x), before);
        Kit.due("truncateArchive(64)", x.truncateArchive(64), 64);
        dueBytes(x, want, 64);
        Kit.refused(x, "truncateArchive(65)", () -> x.truncateArchive(65), TarArchive.ERR_ARG);
        Kit.due("truncateArchive(63)", x.truncateArchive(63), 63);
        dueBytes(x, want, 63);
        Kit.due("archiveByte(63)", x.archiveByte(63), TarArchive.ERR_ARG);
        Kit.due("truncateArchive(0)", x.truncateArchive(0), 0);
        Kit.due("truncateArchive(0) again", x.truncateArchive(0), 0);
        Kit.refused(x, "truncateArchive(1)", () -> x.truncateArchive(1), TarArchive.ERR_ARG);
        Kit.due("appendArchive(9) after it", x.appendArchive(9), 1);
        Kit.due("archiveByte(0) after it", x.archiveByte(0), 9);
    }

    private static void appending() {
        for (int maxBlocks = 4; maxBlocks <= 12; maxBlocks++) {
            TarArchive x = new TarArchive(2, maxBlocks);
            int room = 64 * maxBlocks;
            for (int pos = 0; pos < room; pos++) {
                Kit.due("appendArchive at " + pos, x.appendArchive(255 - (pos & 255)), pos + 1);
                Kit.due("archiveByte(" + pos + ")", x.archiveByte(pos), 255 - (pos & 255));
            }
            Kit.refused(x, "appendArchive(0) when full", () -> x.appendArchive(0), TarArchive.ERR_FULL);
            Kit.refused(x, "appendArchive(255) when full", () -> x.appendArchive(255), TarArchive.ERR_FULL);
            for (int value : new int[] {MIN, -1, 256, MAX}) {
                Kit.refused(x, "appendArchive(" + value + ") when full", () -> x.appendArchive(value), TarArchive.ERR_ARG);
            }
            x.truncateArchive(room - 1);
            Kit.refused(x, "appendArchive(256)", () -> x.appendArchive(256), TarArchive.ERR_ARG);
            Kit.due("appendArchive(77)", x.appendArchive(77), room);
            Kit.due("the last byte", x.archiveByte(room - 1), 77);
            Kit.due("the byte before it", x.archiveByte(room - 2), 255 - (room - 2 & 255));
        }
    }

    private static void restUntouched() {
        TarArchive x = new TarArchive(8, 12);
        Kit.file(x, -1, "f");
        Kit.fill(x, 0, 3);
        x.create();
        x.pokeArchive(130, 1);
        x.pokeArchive(200, 1);
        x.extract();
        String rest = Kit.tree(x, 0) + Kit.tree(x, 1) + x.errorBlock();
        x.pokeArchive(0, 'g');
        x.pokeArchive(64, 99);
        x.appendArchive(1);
        x.truncateArchive(65);
        x.appendArchive(2);
        Kit.due("trees and errorBlock()", Kit.tree(x, 0) + Kit.tree(x, 1) + x.errorBlock(), rest);
    }
}
