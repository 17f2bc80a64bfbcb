import java.util.ArrayList;
import java.util.List;
import java.util.function.ToIntFunction;
import java.util.regex.Matcher;
import java.util.regex.Pattern;

/** The section "What it is" up to "Trees". */
final class WhatItIsSentences extends Sentences {
    private static final String SIZES = "`BLOCK = 64`, `MAX_FILE = 32`, `MAX_DEPTH = 6`, `NAME_LEN = 12`, `PREFIX_LEN = 10`, "
        + "`LINK_LEN = 12`.";
    private static final String KINDS = "Kinds: `KIND_FILE = 1`, `KIND_LINK = 2`, `KIND_DIR = 3`.";
    private static final String ITEMS = "Info items: `INFO_KIND = 0` (kind constant), `INFO_PARENT = 1` (parent index or -1), "
        + "`INFO_NAME = 2` (packed name, in the canonical form below), `INFO_MODE = 3` (mode; LINK: its target's mode), "
        + "`INFO_SIZE = 4` (content size; DIR: 0; LINK: its target's size), `INFO_LINK = 5` (LINK: its target's index; "
        + "otherwise -1).";
    private static final String ERRORS = "Errors: `ERR_ARG = -2`, `ERR_FULL = -3`, `ERR_KIND = -4`, `ERR_NAME = -5`, "
        + "`ERR_PARENT = -6`, `ERR_DEPTH = -7`, `ERR_DUPLICATE = -8`, `ERR_MODE = -9`, `ERR_LINK = -10`, "
        + "`ERR_NAME_TOO_LONG = -11`, `ERR_ARCHIVE_FULL = -12`, `ERR_TRUNCATED = -13`, `ERR_BAD_END = -14`, "
        + "`ERR_CHECKSUM = -15`, `ERR_MAGIC = -16`, `ERR_TYPE = -17`, `ERR_FIELD = -18`, `ERR_TOO_BIG = -19`, "
        + "`ERR_TOO_MANY = -20`, `ERR_PADDING = -21`.";

    private WhatItIsSentences() {
    }

    static void run() {
        section("What it is");
        says("TarArchive is a miniature ustar archive writer and streaming reader, held entirely in one object.",
            WhatItIsSentences::oneObject);
        says("The object holds two trees and one archive:", WhatItIsSentences::threeParts);
        says("The SOURCE tree (t = 0), built by `addNode` and `appendData`.", WhatItIsSentences::sourceTree);
        says("The EXTRACTED tree (t = 1), rebuilt by `extract()`.", WhatItIsSentences::rebuiltTree);
        says("The ARCHIVE, a byte buffer of length L,", WhatItIsSentences::buffer);
        says("with 0 <= L", WhatItIsSentences::emptyArchive);
        says("L <= 64*maxBlocks.", WhatItIsSentences::fullArchive);
        says("It is written by `create()` and edited by `pokeArchive`, `truncateArchive` and `appendArchive`.",
            WhatItIsSentences::edits);
        says("Every answer below 0 that is listed as an `ERR_` code is a refusal, and a refused call changes nothing.",
            WhatItIsSentences::refusals);
        says("`extract()` is the one exception (see Promise 5).", WhatItIsSentences::exception);
        onlyLeads("Public constants:");
        says(SIZES, () -> constants(SIZES, 6));
        says(KINDS, () -> constants(KINDS, 3));
        says(ITEMS, () -> constants(ITEMS, 6));
        says(ERRORS, () -> constants(ERRORS, 20));
    }

    private static List<ToIntFunction<TarArchive>> calls() {
        return List.of(
            x -> x.addNode(-1, TarArchive.KIND_DIR, 'a', 7), x -> x.addNode(0, TarArchive.KIND_FILE, 'f', 8),
            x -> x.appendData(1, 9), TarArchive::create, TarArchive::extract,
            x -> x.addNode(-1, TarArchive.KIND_LINK, 'l', 1), x -> x.pokeArchive(3, 4), x -> x.truncateArchive(70),
            x -> x.appendArchive(5), TarArchive::extract, x -> x.appendData(2, 6), TarArchive::create, TarArchive::extract);
    }

    /** No object sees anything of another one, whatever the other lives through. */
    private static void oneObject() {
        TarArchive alone = new TarArchive(3, 6);
        List<String> states = new ArrayList<>();
        for (ToIntFunction<TarArchive> call : calls()) {
            states.add(call.applyAsInt(alone) + " " + Kit.all(alone));
        }
        TarArchive busy = Kit.busy();
        TarArchive x = new TarArchive(3, 6);
        String before = Kit.all(busy);
        for (int i = 0; i < calls().size(); i++) {
            TarArchive other = RoundTripTest.crowded();
            other.create();
            other.extract();
            Kit.due("call " + i + " among other objects", calls().get(i).applyAsInt(x) + " " + Kit.all(x), states.get(i));
            Kit.due("another object after call " + i, Kit.all(busy), before);
        }
    }

    /** Each of the three parts changes while the two others stay. */
    private static void threeParts() {
        TarArchive x = Kit.busy();
        String source = Kit.tree(x, 0);
        String extracted = Kit.tree(x, 1);
        String archive = Kit.archive(x);
        Kit.due("addNode", x.addNode(-1, TarArchive.KIND_FILE, 'n', 1), 4);
        Kit.due("the source tree is another", Kit.tree(x, 0).equals(source) ? 1 : 0, 0);
        Kit.due("the others", Kit.tree(x, 1) + Kit.archive(x), extracted + archive);
        source = Kit.tree(x, 0);
        Kit.due("create()", x.create(), 9);
        Kit.due("the archive is another", Kit.archive(x).equals(archive) ? 1 : 0, 0);
        Kit.due("the others", Kit.tree(x, 0) + Kit.tree(x, 1), source + extracted);
        archive = Kit.archive(x);
        Kit.due("extract()", x.extract(), 5);
        Kit.due("the extracted tree is another", Kit.tree(x, 1).equals(extracted) ? 1 : 0, 0);
        Kit.due("the others", Kit.tree(x, 0) + Kit.archive(x), source + archive);
    }

    private static void buffer() {
        TarArchive x = new TarArchive(2, 4);
        for (int length = 0; length <= 256; length++) {
            Kit.due("archiveLength()", x.archiveLength(), length);
            for (int pos = 0; pos < length; pos++) {
                Kit.due("archiveByte(" + pos + ")", x.archiveByte(pos), 255 - pos);
            }
            Kit.due("archiveByte(" + length + ")", x.archiveByte(length), TarArchive.ERR_ARG);
            x.appendArchive(255 - length);
        }
    }

    private static void sourceTree() {
        TarArchive x = new TarArchive(8, 12);
        Kit.due("addNode", Kit.file(x, -1, "f"), 0);
        Kit.due("appendData", x.appendData(0, 9), 1);
        Kit.due("tree 0", Kit.tree(x, 0), "1: [1 -1 102 420 1 -1 | -2 9 -2]");
        Kit.due("tree 1", Kit.tree(x, 1), "0:");
    }

    private static void rebuiltTree() {
        TarArchive x = read("one DIR", 1, -1, 1, dir("a"), END, END);
        Kit.due("tree 1", Kit.tree(x, 1), "1: [3 -1 97 420 0 -1 | -2 -2]");
        Kit.load(x, file("b", 0), END, END);
        extract(x, "another node", 1, -1, 1);
        Kit.due("tree 1, rebuilt", Kit.tree(x, 1), "1: [1 -1 98 420 0 -1 | -2 -2]");
    }

    private static void emptyArchive() {
        TarArchive x = new TarArchive(2, 4);
        Kit.due("archiveLength()", x.archiveLength(), 0);
        Kit.refused(x, "truncateArchive(-1)", () -> x.truncateArchive(-1), TarArchive.ERR_ARG);
        x.appendArchive(1);
        Kit.due("truncateArchive(0)", x.truncateArchive(0), 0);
        Kit.due("archiveLength()", x.archiveLength(), 0);
    }

    private static void fullArchive() {
        for (int maxBlocks = 4; maxBlocks <= 12; maxBlocks++) {
            TarArchive x = new TarArchive(8, maxBlocks);
            for (int i = 0; i < maxBlocks - 2 && i < 8; i++) {
                Kit.file(x, -1, "f" + i);
            }
            // With 8 nodes, data blocks fill what is left.
            for (int i = 0; i < maxBlocks - 10; i++) {
                x.appendData(i, 255);
            }
            Kit.due("create() of a full archive", x.create(), maxBlocks);
            Kit.due("archiveLength()", x.archiveLength(), 64 * maxBlocks);
            x.truncateArchive(64 * maxBlocks - 1);
            Kit.due("appendArchive(0) up to the end", x.appendArchive(0), 64 * maxBlocks);
            Kit.refused(x, "appendArchive(0) past the end", () -> x.appendArchive(0), TarArchive.ERR_FULL);
            x.appendData(7 % x.nodeCount(0), 1);
            Kit.refused(x, "create() of a block more", x::create, TarArchive.ERR_ARCHIVE_FULL);
        }
    }

    private static void edits() {
        TarArchive x = new TarArchive(8, 12);
        Kit.dir(x, -1, "d");
        x.create();
        Kit.due("written", x.archiveByte(0), 'd');
        x.pokeArchive(0, 'e');
        Kit.due("poked", x.archiveByte(0), 'e');
        x.truncateArchive(2);
        Kit.due("truncated", x.archiveLength(), 2);
        x.appendArchive(200);
        Kit.due("appended", x.archiveByte(2), 200);
    }

    /** Two objects live through the same calls, one of them with refused calls before each. */
    private static void refusals() {
        TarArchive plain = new TarArchive(3, 6);
        TarArchive x = new TarArchive(3, 6);
        for (ToIntFunction<TarArchive> call : calls()) {
            refuseEach(x);
            Kit.due("an answer after refused calls", call.applyAsInt(x), call.applyAsInt(plain));
            Kit.due("an object after refused calls", Kit.answers(x), Kit.answers(plain));
        }
    }

    private static void refuseEach(TarArchive x) {
        int full = x.nodeCount(0) == 3 ? TarArchive.ERR_FULL : 0;
        int dir = TarArchive.KIND_DIR;
        refuse(x, y -> y.addNode(-1, 0, 'q', 0), full, TarArchive.ERR_KIND);
        refuse(x, y -> y.addNode(-1, dir, 'Q', 0), full, TarArchive.ERR_NAME);
        refuse(x, y -> y.addNode(3, dir, 'q', 0), full, TarArchive.ERR_PARENT);
        refuse(x, y -> y.addNode(-1, dir, 'q', 512), full, TarArchive.ERR_MODE);
        refuse(x, y -> y.addNode(-1, TarArchive.KIND_LINK, 'q', 3), full, TarArchive.ERR_LINK);
        refuse(x, y -> y.appendData(3, 1), 0, TarArchive.ERR_ARG);
        refuse(x, y -> y.appendData(1, 256), 0, TarArchive.ERR_ARG);
        refuse(x, y -> y.archiveByte(-1), 0, TarArchive.ERR_ARG);
        refuse(x, y -> y.pokeArchive(0, 256), 0, TarArchive.ERR_ARG);
        refuse(x, y -> y.pokeArchive(-1, 1), 0, TarArchive.ERR_ARG);
        refuse(x, y -> y.truncateArchive(y.archiveLength() + 1), 0, TarArchive.ERR_ARG);
        refuse(x, y -> y.appendArchive(-1), 0, TarArchive.ERR_ARG);
        refuse(x, y -> y.nodeCount(2), 0, TarArchive.ERR_ARG);
        refuse(x, y -> y.nodeInfo(0, 3, 0), 0, TarArchive.ERR_ARG);
        refuse(x, y -> y.nodeByte(1, 0, 0), 0, TarArchive.ERR_ARG);
    }

    private static void refuse(TarArchive x, ToIntFunction<TarArchive> call, int sooner, int error) {
        Kit.refused(x, "a call", () -> call.applyAsInt(x), sooner != 0 ? sooner : error);
    }

    private static void exception() {
        TarArchive x = read("two DIRs", 2, -1, 2, dir("a"), dir("b"), END, END);
        Kit.load(x, file("c", 0), dir("c"));
        extract(x, "a path twice", TarArchive.ERR_DUPLICATE, 1, 1);
        Kit.due("tree 1", Kit.tree(x, 1), "1: [1 -1 99 420 0 -1 | -2 -2]");
    }

    /** The constants are as the sentence itself gives them. */
    private static void constants(String sentence, int count) {
        Matcher constant = Pattern.compile("`([A-Z_]+) = (-?\\d+)`").matcher(sentence);
        int met = 0;
        while (constant.find()) {
            met++;
            Kit.due(constant.group(1), valueOf(constant.group(1)), Integer.parseInt(constant.group(2)));
        }
        Kit.due("constants met", met, count);
    }

    private static int valueOf(String name) {
        try {
            return TarArchive.class.getField(name).getInt(null);
        } catch (ReflectiveOperationException missing) {
            throw new IllegalStateException(missing);
        }
    }
}
