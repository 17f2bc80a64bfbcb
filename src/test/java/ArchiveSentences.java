/** Promises 6 to 9. */
final class ArchiveSentences extends Sentences {
    private static final int[] LENGTHS = {0, 1, 63, 64, 65, 128, 255, 256};
    private static final int[] NO_BYTES = {MIN, MIN + 1, -256, -255, -128, -1, 256, 257, 511, 512, 65536, MAX - 1, MAX};

    private ArchiveSentences() {
    }

    static void run() {
        reading();
        poking();
        truncating();
        appending();
    }

    private static void reading() {
        section("Promise 6: archiveLength and archiveByte");
        says("`archiveLength()` answers L.", ArchiveSentences::length);
        says("`archiveByte(pos)` answers archive byte pos, a value 0..255;", ArchiveSentences::bytes);
        says("if pos is not in 0..L-1", ArchiveSentences::edges);
        says("(any negative pos,", ArchiveSentences::negativePlaces);
        says("any pos >= L,", ArchiveSentences::placesPastEnd);
        says("and every pos when L = 0) the answer is `ERR_ARG`.", ArchiveSentences::noBytes);
        says("Neither call changes anything.", ArchiveSentences::getters);
    }

    private static void poking() {
        section("Promise 7: pokeArchive");
        says("`pokeArchive(pos, value)` sets archive byte pos to value.", ArchiveSentences::pokes);
        says("If pos is not in 0..L-1,", ArchiveSentences::pokePlaces);
        says("or value is not in 0..255, the answer is `ERR_ARG` and nothing changes.", ArchiveSentences::pokeValues);
        says("Otherwise the answer is the previous byte at pos (0..255),", ArchiveSentences::pokeAnswers);
        says("and byte pos now holds value.", ArchiveSentences::pokeHolds);
        says("L, all other archive bytes, both trees and `errorBlock()` do not change.", ArchiveSentences::pokeRest);
    }

    private static void truncating() {
        section("Promise 8: truncateArchive");
        says("`truncateArchive(len)` sets L = len;", ArchiveSentences::cuts);
        says("bytes from len on are gone.", ArchiveSentences::gone);
        says("If len is not in 0..L, the answer is `ERR_ARG` and nothing changes.", ArchiveSentences::cutRefusals);
        says("Otherwise the answer is len;", ArchiveSentences::cutAnswers);
        says("bytes 0..len-1 keep their values.", ArchiveSentences::kept);
        says("`truncateArchive(L)` leaves the archive as it is.", ArchiveSentences::cutNothing);
        says("Both trees and `errorBlock()` do not change.", ArchiveSentences::cutRest);
    }

    private static void appending() {
        section("Promise 9: appendArchive");
        says("`appendArchive(value)` appends one byte at position L.", ArchiveSentences::appends);
        says("The conditions are examined in this order:", ArchiveSentences::appendOrder);
        says("value is not in 0..255: `ERR_ARG`.", ArchiveSentences::appendValues);
        says("L == 64*maxBlocks: `ERR_FULL`.", ArchiveSentences::appendFull);
        says("Each refusal changes nothing.", ArchiveSentences::appendRefusals);
        says("On success byte L becomes value, L grows by 1, and the answer is the new L.", ArchiveSentences::appendAnswers);
        says("Earlier archive bytes, both trees and `errorBlock()` do not change.", ArchiveSentences::appendRest);
    }

    private static int value(int pos) {
        return (pos * 7 + 3) & 255;
    }

    /** An archive of so many bytes, in an object with room for 256. */
    private static TarArchive of(int length) {
        TarArchive x = new TarArchive(8, 4);
        for (int pos = 0; pos < length; pos++) {
            x.appendArchive(value(pos));
        }
        return x;
    }

    private static void dueKept(TarArchive x, int length) {
        Kit.due("archiveLength()", x.archiveLength(), length);
        for (int pos = 0; pos < length; pos++) {
            Kit.due("archiveByte(" + pos + ")", x.archiveByte(pos), value(pos));
        }
        Kit.due("archiveByte(" + length + ")", x.archiveByte(length), TarArchive.ERR_ARG);
    }

    private static void refusedByte(TarArchive x, int pos) {
        Kit.refused(x, "archiveByte(" + pos + ")", () -> x.archiveByte(pos), TarArchive.ERR_ARG);
    }

    private static void refusedPoke(TarArchive x, int pos, int value) {
        Kit.refused(x, "pokeArchive(" + pos + ", " + value + ")", () -> x.pokeArchive(pos, value), TarArchive.ERR_ARG);
    }

    private static void refusedCut(TarArchive x, int len) {
        Kit.refused(x, "truncateArchive(" + len + ")", () -> x.truncateArchive(len), TarArchive.ERR_ARG);
    }

    private static void length() {
        for (int length : LENGTHS) {
            Kit.due("archiveLength()", of(length).archiveLength(), length);
        }
        TarArchive x = of(256);
        Kit.due("a refused appendArchive", x.appendArchive(0), TarArchive.ERR_FULL);
        Kit.due("archiveLength() when full", x.archiveLength(), 256);
        x.create();
        Kit.due("archiveLength() after create()", x.archiveLength(), 128);
        x.truncateArchive(0);
        Kit.due("archiveLength() after truncateArchive(0)", x.archiveLength(), 0);
    }

    private static void bytes() {
        TarArchive x = new TarArchive(2, 4);
        for (int value = 0; value <= 255; value++) {
            x.appendArchive(value);
        }
        for (int pos = 0; pos <= 255; pos++) {
            Kit.due("archiveByte(" + pos + ")", x.archiveByte(pos), pos);
        }
    }

    private static void edges() {
        for (int length : LENGTHS) {
            TarArchive x = of(length);
            if (length > 0) {
                Kit.due("archiveByte(0)", x.archiveByte(0), value(0));
                Kit.due("archiveByte(L-1)", x.archiveByte(length - 1), value(length - 1));
            }
            refusedByte(x, -1);
            refusedByte(x, length);
        }
    }

    private static void negativePlaces() {
        for (int length : LENGTHS) {
            for (int pos : new int[] {MIN, MIN + 1, -1000, -256, -64, -2, -1}) {
                refusedByte(of(length), pos);
            }
        }
    }

    private static void placesPastEnd() {
        for (int length : LENGTHS) {
            for (int more : new int[] {0, 1, 64, 512, 768, 1000}) {
                refusedByte(of(length), length + more);
            }
            refusedByte(of(length), MAX);
        }
        // What was there before it was cut off is not answered.
        TarArchive x = of(256);
        x.truncateArchive(100);
        for (int pos = 100; pos < 256; pos++) {
            refusedByte(x, pos);
        }
    }

    private static void noBytes() {
        TarArchive fresh = new TarArchive(8, 12);
        TarArchive emptied = of(256);
        emptied.truncateArchive(0);
        for (int pos = -2; pos < 800; pos++) {
            Kit.due("archiveByte(" + pos + ") of a fresh object", fresh.archiveByte(pos), TarArchive.ERR_ARG);
            Kit.due("archiveByte(" + pos + ") of an emptied archive", emptied.archiveByte(pos), TarArchive.ERR_ARG);
        }
        refusedByte(fresh, MIN);
        refusedByte(fresh, MAX);
    }

    private static void getters() {
        TarArchive x = Kit.busy();
        String before = Kit.all(x);
        for (int pos : new int[] {MIN, -1, 0, 300, 301, MAX}) {
            x.archiveLength();
            x.archiveByte(pos);
            Kit.due("the object after archiveByte(" + pos + ")", Kit.all(x), before);
        }
    }

    private static void pokes() {
        for (int length : LENGTHS) {
            for (int pos = 0; pos < length; pos++) {
                TarArchive x = of(length);
                x.pokeArchive(pos, 200);
                Kit.due("archiveByte(" + pos + ")", x.archiveByte(pos), 200);
            }
        }
    }

    private static void pokePlaces() {
        for (int length : LENGTHS) {
            TarArchive x = of(length);
            for (int pos : new int[] {MIN, -256, -1, length, length + 1, 256, 768, MAX}) {
                refusedPoke(x, pos, 1);
            }
        }
        // A byte that was cut off is not set either: it would be seen when L grows again.
        TarArchive x = of(64);
        x.truncateArchive(10);
        refusedPoke(x, 10, 1);
        refusedPoke(x, 63, 1);
        Kit.due("appendArchive(9)", x.appendArchive(9), 11);
        Kit.due("archiveByte(10)", x.archiveByte(10), 9);
    }

    private static void pokeValues() {
        TarArchive x = Kit.busy();
        for (int value : NO_BYTES) {
            refusedPoke(x, 0, value);
            refusedPoke(x, 300, value);
            refusedPoke(x, 301, value);
        }
    }

    private static void pokeAnswers() {
        TarArchive x = of(256);
        for (int pos = 0; pos < 256; pos++) {
            Kit.due("pokeArchive(" + pos + ", 255)", x.pokeArchive(pos, 255), value(pos));
            Kit.due("pokeArchive(" + pos + ", 0)", x.pokeArchive(pos, 0), 255);
            Kit.due("pokeArchive(" + pos + ", 0)", x.pokeArchive(pos, 0), 0);
        }
    }

    private static void pokeHolds() {
        TarArchive x = of(256);
        for (int value = 0; value <= 255; value++) {
            for (int pos : new int[] {0, 100, 255}) {
                x.pokeArchive(pos, value);
                Kit.due("archiveByte(" + pos + ")", x.archiveByte(pos), value);
            }
        }
    }

    private static void pokeRest() {
        for (int pos : new int[] {0, 1, 63, 64, 254, 255}) {
            TarArchive x = of(256);
            x.pokeArchive(pos, 77);
            Kit.due("archiveLength()", x.archiveLength(), 256);
            for (int other = 0; other < 256; other++) {
                Kit.due("archiveByte(" + other + ")", x.archiveByte(other), other == pos ? 77 : value(other));
            }
        }
        TarArchive x = Kit.busy();
        String before = besideArchive(x);
        for (int pos = 0; pos < 301; pos++) {
            x.pokeArchive(pos, pos & 255);
        }
        Kit.due("the rest", besideArchive(x), before);
    }

    private static void cuts() {
        for (int length : LENGTHS) {
            for (int len = 0; len <= length; len++) {
                TarArchive x = of(length);
                x.truncateArchive(len);
                Kit.due("archiveLength()", x.archiveLength(), len);
            }
        }
    }

    private static void gone() {
        TarArchive x = of(256);
        x.truncateArchive(64);
        for (int pos = 64; pos < 256; pos++) {
            refusedByte(x, pos);
            refusedPoke(x, pos, 1);
        }
        refusedCut(x, 65);
        Kit.due("appendArchive(1)", x.appendArchive(1), 65);
        Kit.due("archiveByte(64)", x.archiveByte(64), 1);
        refusedByte(x, 65);
        // Nor does extract() see them.
        TarArchive y = read("two DIRs", 2, -1, 2, dir("a"), dir("b"), END, END);
        y.truncateArchive(64);
        extract(y, "one DIR left", TarArchive.ERR_TRUNCATED, 1, 1);
    }

    private static void cutRefusals() {
        for (int length : LENGTHS) {
            TarArchive x = of(length);
            for (int len : new int[] {MIN, MIN + 1, -256, -1, length + 1, length + 64, 769, MAX - 1, MAX}) {
                refusedCut(x, len);
            }
        }
        refusedCut(Kit.busy(), 302);
        refusedCut(Kit.busy(), -1);
    }

    private static void cutAnswers() {
        TarArchive x = of(256);
        for (int len = 256; len >= 0; len--) {
            Kit.due("truncateArchive(" + len + ")", x.truncateArchive(len), len);
        }
        Kit.due("truncateArchive(0) again", x.truncateArchive(0), 0);
    }

    private static void kept() {
        for (int length : LENGTHS) {
            for (int len : new int[] {0, 1, length / 2, length - 1, length}) {
                if (len >= 0 && len <= length) {
                    TarArchive x = of(length);
                    x.truncateArchive(len);
                    dueKept(x, len);
                }
            }
        }
    }

    private static void cutNothing() {
        for (int length : LENGTHS) {
            TarArchive x = of(length);
            String before = Kit.all(x);
            Kit.due("truncateArchive(L)", x.truncateArchive(length), length);
            Kit.due("the object", Kit.all(x), before);
        }
    }

    private static void cutRest() {
        TarArchive x = Kit.busy();
        String before = besideArchive(x);
        for (int len : new int[] {301, 300, 64, 1, 0}) {
            x.truncateArchive(len);
            Kit.due("the rest after truncateArchive(" + len + ")", besideArchive(x), before);
        }
    }

    private static void appends() {
        for (int length : LENGTHS) {
            if (length < 256) {
                TarArchive x = of(length);
                x.appendArchive(value(length));
                dueKept(x, length + 1);
            }
        }
    }

    private static void appendOrder() {
        TarArchive x = of(256);
        for (int value : NO_BYTES) {
            Kit.refused(x, "appendArchive(" + value + ") when full", () -> x.appendArchive(value), TarArchive.ERR_ARG);
        }
        Kit.refused(x, "appendArchive(0) when full", () -> x.appendArchive(0), TarArchive.ERR_FULL);
    }

    private static void appendValues() {
        for (int length : LENGTHS) {
            TarArchive x = of(length);
            for (int value : NO_BYTES) {
                Kit.refused(x, "appendArchive(" + value + ")", () -> x.appendArchive(value), TarArchive.ERR_ARG);
            }
        }
        TarArchive x = of(0);
        Kit.due("appendArchive(0)", x.appendArchive(0), 1);
        Kit.due("appendArchive(255)", x.appendArchive(255), 2);
    }

    private static void appendFull() {
        for (int maxBlocks = 4; maxBlocks <= 12; maxBlocks++) {
            TarArchive x = new TarArchive(2, maxBlocks);
            int room = 64 * maxBlocks;
            for (int length = 1; length <= room; length++) {
                Kit.due("appendArchive", x.appendArchive(255), length);
            }
            for (int value : new int[] {0, 1, 255}) {
                Kit.refused(x, "appendArchive when full", () -> x.appendArchive(value), TarArchive.ERR_FULL);
            }
            x.truncateArchive(room - 1);
            Kit.due("appendArchive to the last place", x.appendArchive(1), room);
            Kit.refused(x, "appendArchive when full again", () -> x.appendArchive(1), TarArchive.ERR_FULL);
        }
    }

    private static void appendRefusals() {
        TarArchive x = Kit.busy();
        for (int value : NO_BYTES) {
            Kit.refused(x, "appendArchive(" + value + ")", () -> x.appendArchive(value), TarArchive.ERR_ARG);
        }
        for (int pos = 301; pos < 768; pos++) {
            x.appendArchive(9);
        }
        Kit.refused(x, "appendArchive(1) when full", () -> x.appendArchive(1), TarArchive.ERR_FULL);
        Kit.due("the last byte", x.archiveByte(767), 9);
    }

    private static void appendAnswers() {
        TarArchive x = new TarArchive(2, 12);
        for (int length = 0; length < 768; length++) {
            Kit.due("appendArchive", x.appendArchive(value(length)), length + 1);
            Kit.due("the new byte", x.archiveByte(length), value(length));
            Kit.due("archiveLength()", x.archiveLength(), length + 1);
        }
    }

    private static void appendRest() {
        TarArchive x = Kit.busy();
        String before = besideArchive(x);
        int[] bytes = new int[768];
        for (int pos = 0; pos < 301; pos++) {
            bytes[pos] = x.archiveByte(pos);
        }
        for (int pos = 301; pos < 768; pos++) {
            bytes[pos] = value(pos);
            x.appendArchive(bytes[pos]);
        }
        Kit.due("the rest", besideArchive(x), before);
        for (int pos = 0; pos < 768; pos++) {
            Kit.due("archiveByte(" + pos + ")", x.archiveByte(pos), bytes[pos]);
        }
    }
}
