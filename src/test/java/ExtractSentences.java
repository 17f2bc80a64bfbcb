/** Promise 5: the steps of extract(), each refusing with its code at its block. */
final class ExtractSentences extends Sentences {
    private ExtractSentences() {
    }

    static void run() {
        section("Promise 5: extract and errorBlock");
        says("`extract()` reads the archive into the extracted tree, streaming.", ExtractSentences::reads);
        says("First the extracted tree is emptied.", ExtractSentences::emptied);
        says("Block b means bytes 64b..64b+63.", ExtractSentences::blocks);
        says("Starting with b = 0, the following steps repeat.", ExtractSentences::order);
        says("Each stop names an error code and a block.", ExtractSentences::codes);
        says("If 64*(b+1) > L: stop with `ERR_TRUNCATED` at b.", ExtractSentences::truncated);
        says("If every byte of block b is 0: if 64*(b+2) > L, stop with `ERR_TRUNCATED` at b+1;", ExtractSentences::halfEnd);
        says("else if block b+1 is not all 0, stop with `ERR_BAD_END` at b+1;", ExtractSentences::badEnd);
        says("else stop with success.", ExtractSentences::goodEnd);
        says("Bytes after block b+1 are ignored.", ExtractSentences::afterEnd);
        says("If bytes 20..24 are not all octal digits,", ExtractSentences::sumDigits);
        says("or byte 25 != 0,", ExtractSentences::sumEnd);
        says("or their octal value != the CHECKSUM of block b: `ERR_CHECKSUM` at b.", ExtractSentences::sumValue);
        says("If bytes 39..46 are not 'u','s','t','a','r',0,'0','0': `ERR_MAGIC` at b.", ExtractSentences::magic);
        says("If byte 26 is not '0', '1' or '5': `ERR_TYPE` at b.", ExtractSentences::types);
        says("If the mode or size field is not 3 octal digits followed by 0,", ExtractSentences::digits);
        says("or a byte in 57..63 is nonzero,", ExtractSentences::reserved);
        says("or the size value != 0 for a DIR or LINK: `ERR_FIELD` at b.", ExtractSentences::sizeOfOthers);
        says("If it is a FILE with size value > `MAX_FILE`: `ERR_TOO_BIG` at b.", ExtractSentences::tooBig);
        says("If the name or prefix field is not well-formed,", ExtractSentences::wellFormed);
        says("or the name text is empty,", ExtractSentences::emptyName);
        says("or the path is not valid: `ERR_NAME` at b.", ExtractSentences::badPath);
        says("The path is the name text if the prefix text is empty;", ExtractSentences::pathOfName);
        says("otherwise it is prefix text + '/' + name text.", ExtractSentences::pathOfBoth);
        says("If the extracted count == maxNodes: `ERR_TOO_MANY` at b.", ExtractSentences::tooMany);
        says("If the path has more than one component and the path without its last component is not the path of an extracted "
            + "DIR node: `ERR_PARENT` at b.", ExtractSentences::parents);
        says("If an extracted node already has this path: `ERR_DUPLICATE` at b.", ExtractSentences::duplicates);
        says("For a DIR or FILE whose linkname bytes are not all 0,", ExtractSentences::linknameOfOthers);
        says("or for a LINK whose linkname field is not well-formed", ExtractSentences::linknameForm);
        says("or whose linkname text is not the path of an extracted FILE or LINK node: `ERR_LINK` at b.",
            ExtractSentences::linknames);
        says("For a FILE with size > 0: if 64*(b+2) > L: `ERR_TRUNCATED` at b+1;", ExtractSentences::noData);
        says("if bytes size..63 of block b+1 are not all 0: `ERR_PADDING` at b+1.", ExtractSentences::padding);
        says("Then a node is appended to the extracted tree:", ExtractSentences::appended);
        says("kind by typeflag;", ExtractSentences::kinds);
        says("parent = the index of the parent DIR, or -1;", ExtractSentences::madeParents);
        says("name = the last path component, packed;", ExtractSentences::madeNames);
        says("mode = the mode value (DIR and FILE);", ExtractSentences::madeModes);
        says("content = the first size bytes of block b+1", ExtractSentences::madeContents);
        says("(a FILE with size 0 has empty content and no data block);", ExtractSentences::emptyFile);
        says("a LINK's target = the FILE node named by the linkname,", ExtractSentences::targetFile);
        says("or, if that names a LINK, that LINK's target.", ExtractSentences::targetOfLink);
        says("b then grows by 1, and by 1 more if a data block was read.", ExtractSentences::steps);
    }

    /** The spoilt header stops alone, and behind a DIR, and behind a FILE with data. */
    private static void stops(String what, int error, int[] header) {
        read(what, error, 0, 0, header, END, END);
        read(what + " after a DIR", error, 1, 1, dir("0"), header, END, END);
        read(what + " after a FILE", error, 3, 2, dir("0"), file("1", 32), speck(31), header, END, END);
    }

    private static void reads() {
        TarArchive x = read("a tree", 3, -1, 3, dir("d"), file("d/f", 2), speck(1), link("l", "d/f"), END, END);
        Kit.due("the extracted tree", Kit.tree(x, 1),
            "3: [3 -1 100 420 0 -1 | -2 -2] [1 0 102 420 2 -1 | -2 0 1 -2] [2 -1 108 420 2 1 | -2 0 1 -2]");
        // Streaming: what stands before a fault has been read when the fault is met.
        read("a fault behind a tree", TarArchive.ERR_CHECKSUM, 2, 2, dir("d"), file("f", 0), speck(0));
    }

    private static void emptied() {
        TarArchive x = read("two nodes", 2, -1, 2, dir("a"), dir("b"), END, END);
        Kit.load(x);
        extract(x, "nothing after them", TarArchive.ERR_TRUNCATED, 0, 0);
        Kit.load(x, dir("a"), dir("b"), END, END);
        extract(x, "the same two again", 2, -1, 2);
        extract(x, "the same two once more", 2, -1, 2);
        Kit.load(x, file("b", 1), speck(0), END, END);
        extract(x, "one other node", 1, -1, 1);
        Kit.due("the extracted tree", Kit.tree(x, 1), "1: [1 -1 98 420 1 -1 | -2 1 -2]");
        Kit.load(x, END, END);
        extract(x, "no node", 0, -1, 0);
    }

    private static void blocks() {
        read("byte 63 of block 0", TarArchive.ERR_FIELD, 0, 0, with(dir("a"), 63, 1), dir("b"), END, END);
        read("byte 0 of block 1", TarArchive.ERR_NAME, 1, 1, dir("a"), with(dir("b"), 0, 'B'), END, END);
        read("byte 63 of block 1", TarArchive.ERR_FIELD, 1, 1, dir("a"), with(dir("b"), 63, 1), END, END);
        // The last block of a full archive is bytes 704..767.
        TarArchive x = new TarArchive(8, 12);
        for (int i = 0; i < 4; i++) {
            Kit.feed(x, file("f" + i, 32));
            Kit.feed(x, speck(31));
        }
        Kit.feed(x, dir("d"));
        Kit.feed(x, dir("e"));
        Kit.feed(x, END);
        Kit.feed(x, END);
        extract(x, "a full archive", 6, -1, 6);
        for (int pos = 640; pos < 768; pos++) {
            x.pokeArchive(pos, 1);
            extract(x, "byte " + pos, pos < 704 ? TarArchive.ERR_CHECKSUM : TarArchive.ERR_BAD_END, pos / 64, 6);
            x.pokeArchive(pos, 0);
        }
        x.pokeArchive(0, 'g');
        extract(x, "byte 0", TarArchive.ERR_CHECKSUM, 0, 0);
    }

    /** Every set of faults that one header and its data can have: the first of them answers. */
    static void order() {
        int[] errors = {TarArchive.ERR_CHECKSUM, TarArchive.ERR_MAGIC, TarArchive.ERR_TYPE, TarArchive.ERR_FIELD,
            TarArchive.ERR_TOO_BIG, TarArchive.ERR_NAME, TarArchive.ERR_TOO_MANY, TarArchive.ERR_PARENT,
            TarArchive.ERR_DUPLICATE, TarArchive.ERR_LINK, TarArchive.ERR_TRUNCATED, TarArchive.ERR_PADDING};
        for (int faults = 1; faults < 1 << errors.length; faults++) {
            int first = Integer.numberOfTrailingZeros(faults);
            TarArchive x = faulty(faults);
            extract(x, "the faults " + Integer.toBinaryString(faults), errors[first], first < 10 ? 2 : 3, 2);
        }
        extract(faulty(0), "no fault", 3, -1, 3);
        // The first header of an archive as long as can be is read first.
        TarArchive x = new TarArchive(8, 12);
        for (int i = 0; i < 12; i++) {
            Kit.feed(x, dir("d" + i));
        }
        x.pokeArchive(0, 'e');
        extract(x, "a fault in the first block", TarArchive.ERR_CHECKSUM, 0, 0);
        TarArchive cut = faulty((1 << 10) - 1);
        cut.truncateArchive(3 * 64 - 1);
        extract(cut, "every fault of a header, and the header cut", TarArchive.ERR_TRUNCATED, 2, 2);
    }

    private static boolean has(int faults, int fault) {
        return (faults >> fault & 1) != 0;
    }

    /** DIR d, FILE d/f and a FILE that has these faults, one for each bit. */
    private static TarArchive faulty(int faults) {
        int[] header = file("d/g", 1);
        header[39] = has(faults, 1) ? 'x' : 'u';
        header[26] = has(faults, 2) ? '7' : '0';
        header[12] = has(faults, 3) ? '8' : '6';
        Kit.put(header, 16, has(faults, 4) ? "041" : "001");
        header[2] = has(faults, 8) ? 'f' : 'g';
        header[0] = has(faults, 7) ? 'x' : 'd';
        header[1] = has(faults, 5) ? 'A' : '/';
        header[27] = has(faults, 9) ? 'x' : 0;
        Kit.seal(header);
        header[24] ^= has(faults, 0) ? 1 : 0;
        TarArchive x = new TarArchive(has(faults, 6) ? 2 : 3, 12);
        Kit.load(x, dir("d"), file("d/f", 0), header, has(faults, 11) ? speck(1) : speck(0));
        if (has(faults, 10)) {
            x.truncateArchive(4 * 64 - 1);
        } else {
            Kit.feed(x, new int[128]);
        }
        return x;
    }

    private static void codes() {
        for (StopSentences.Stop stop : StopSentences.stops()) {
            read(stop.what(), stop.error(), stop.block(), stop.nodes(), stop.blocks());
        }
    }

    private static void truncated() {
        for (int length = 0; length < 64; length++) {
            read("0s, L = " + length, TarArchive.ERR_TRUNCATED, 0, 0, new int[length]);
            int[] part = java.util.Arrays.copyOf(dir("a"), length);
            read("a header, L = " + length, TarArchive.ERR_TRUNCATED, 0, 0, part);
            read("a DIR and L = 64 + " + length, TarArchive.ERR_TRUNCATED, 1, 1, dir("b"), part);
            read("a FILE and L = 128 + " + length, TarArchive.ERR_TRUNCATED, 2, 1, file("b", 1), speck(0), part);
        }
        // Full archives without an end: the block named is the one after the last.
        for (int maxBlocks = 4; maxBlocks <= 8; maxBlocks++) {
            TarArchive x = new TarArchive(8, maxBlocks);
            for (int i = 0; i < maxBlocks; i++) {
                Kit.feed(x, dir("d" + i));
            }
            extract(x, "no end in " + maxBlocks, TarArchive.ERR_TRUNCATED, maxBlocks, maxBlocks);
        }
        TarArchive x = new TarArchive(8, 12);
        for (int i = 0; i < 6; i++) {
            Kit.feed(x, file("f" + i, 1));
            Kit.feed(x, speck(0));
        }
        extract(x, "data at the very end", TarArchive.ERR_TRUNCATED, 12, 6);
    }

    private static void halfEnd() {
        for (int length = 64; length < 128; length++) {
            read("0s, L = " + length, TarArchive.ERR_TRUNCATED, 1, 0, new int[length]);
            read("a DIR and 0s, L = 64 + " + length, TarArchive.ERR_TRUNCATED, 2, 1, dir("a"), new int[length]);
        }
        int[] cut = new int[63];
        cut[62] = 1;
        read("a cut block that is not all 0", TarArchive.ERR_TRUNCATED, 1, 0, END, cut);
        TarArchive x = new TarArchive(8, 4);
        Kit.load(x, dir("a"), dir("b"), dir("c"), END);
        extract(x, "half an end in a full archive", TarArchive.ERR_TRUNCATED, 4, 3);
    }

    private static void badEnd() {
        for (int at = 0; at < 64; at++) {
            read("byte " + at + " of the second end block", TarArchive.ERR_BAD_END, 1, 0, END, speck(at), END);
            read("the same behind a DIR", TarArchive.ERR_BAD_END, 2, 1, dir("a"), END, speck(at));
        }
        read("a header between end blocks", TarArchive.ERR_BAD_END, 1, 0, END, dir("a"), END, END);
    }

    private static void goodEnd() {
        read("an end alone", 0, -1, 0, END, END);
        read("an end behind a DIR", 1, -1, 1, dir("a"), END, END);
        read("an end behind data", 1, -1, 1, file("f", 32), speck(31), END, END);
        TarArchive x = new TarArchive(2, 4);
        Kit.load(x, dir("a"), dir("b"), END, END);
        extract(x, "an end in a full archive", 2, -1, 2);
    }

    private static void afterEnd() {
        for (int at = 0; at < 64; at++) {
            read("a speck after the end", 1, -1, 1, dir("a"), END, END, speck(at));
        }
        read("a byte after the end", 0, -1, 0, END, END, new int[] {255});
        read("63 bytes after the end", 0, -1, 0, END, END, java.util.Arrays.copyOf(dir("a"), 63));
        read("another archive after the end", 1, -1, 1, dir("a"), END, END, dir("b"), dir("a"), END, END);
    }

    private static void sumDigits() {
        for (int at = 20; at <= 24; at++) {
            for (int value : new int[] {0, 1, ' ', '/', '8', '9', ':', 'a', '0' + 128, 255}) {
                int[] header = dir("a");
                header[at] = value;
                stops("chksum byte " + at + " = " + value, TarArchive.ERR_CHECKSUM, header);
            }
        }
        // Here the value comes out right, were 8, '/' and the like taken for digits too.
        for (String digits : new String[] {"%04o8", "%04o/"}) {
            int met = 0;
            for (char c = 'a'; c <= 'z'; c++) {
                int[] header = dir("" + c);
                int last = digits.endsWith("8") ? 0 : 7;
                int sum = Kit.checksum(header);
                if (sum % 8 == last) {
                    int higher = last == 0 ? sum / 8 - 1 : sum / 8 + 1;
                    stops("other digits", TarArchive.ERR_CHECKSUM, Kit.put(header, 20, String.format(digits, higher)));
                    met++;
                }
            }
            Kit.due("such sums were met", met > 0 ? 1 : 0, 1);
        }
    }

    private static void sumEnd() {
        for (int value : new int[] {1, ' ', '0', '7', 128, 255}) {
            int[] header = dir("a");
            header[25] = value;
            stops("byte 25 = " + value, TarArchive.ERR_CHECKSUM, header);
        }
    }

    private static void sumValue() {
        int[] header = dir("a");
        int sum = Kit.checksum(header);
        for (int other : new int[] {0, 1, sum - 256, sum - 8, sum - 1, sum + 1, sum + 8, sum + 4096, 32767}) {
            stops("the sum " + other, TarArchive.ERR_CHECKSUM, Kit.put(header.clone(), 20, String.format("%05o", other)));
        }
        for (int at = 0; at < 64; at++) {
            int[] changed = header.clone();
            changed[at]++;
            stops("byte " + at + " changed", TarArchive.ERR_CHECKSUM, changed);
        }
    }

    private static void magic() {
        for (int at = 39; at <= 46; at++) {
            for (int value : new int[] {0, 1, ' ', '0', '1', 'U', 'u' + 128, 255}) {
                if (value != "ustar\00000".charAt(at - 39)) {
                    stops("byte " + at + " = " + value, TarArchive.ERR_MAGIC, with(dir("a"), at, value));
                }
            }
        }
    }

    private static void types() {
        for (int type = 0; type < 256; type++) {
            if (type != '0' && type != '1' && type != '5') {
                stops("typeflag " + type, TarArchive.ERR_TYPE, with(dir("a"), 26, type));
            }
        }
        read("each typeflag", 3, -1, 3, file("a", 0), link("b", "a"), dir("c"), END, END);
    }

    private static void digits() {
        int[][] headers = {file("a", 0), link("a", "0"), dir("a")};
        for (int[] header : headers) {
            for (int at = 12; at < 20; at++) {
                for (int value : new int[] {0, 1, ' ', '/', '8', '9', 'a', '0' + 128, 255}) {
                    boolean last = at == 15 || at == 19;
                    if (!last || value != 0) {
                        stops("byte " + at + " = " + value, TarArchive.ERR_FIELD, with(header, at, value));
                    }
                }
            }
            stops("a digit for the mode's 0", TarArchive.ERR_FIELD, with(header, 15, '0'));
            stops("a digit for the size's 0", TarArchive.ERR_FIELD, with(header, 19, '0'));
        }
    }

    private static void reserved() {
        for (int at = 57; at <= 63; at++) {
            for (int value : new int[] {1, '0', 128, 255}) {
                stops("byte " + at + " = " + value, TarArchive.ERR_FIELD, with(dir("a"), at, value));
                stops("byte " + at + " = " + value, TarArchive.ERR_FIELD, with(file("a", 0), at, value));
            }
        }
    }

    private static void sizeOfOthers() {
        for (int size : new int[] {1, 7, 8, 32, 33, 64, 511}) {
            stops("a DIR of size " + size, TarArchive.ERR_FIELD, Kit.header("a", '5', size, ""));
            read("a LINK of size " + size, TarArchive.ERR_FIELD, 1, 1, file("f", 0), Kit.header("a", '1', size, "f"), END, END);
        }
        read("sizes of 0", 3, -1, 3, dir("d"), file("f", 0), link("l", "f"), END, END);
    }

    private static void tooBig() {
        for (int size = 33; size <= 511; size++) {
            stops("size " + size, TarArchive.ERR_TOO_BIG, file("f", size));
        }
        read("size 32", 1, -1, 1, file("f", 32), speck(31), END, END);
        read("size 31", 1, -1, 1, file("f", 31), speck(30), END, END);
    }

    private static void wellFormed() {
        for (int at = 2; at < 12; at++) {
            stops("name byte " + at, TarArchive.ERR_NAME, with(dir("a"), at, 'b'));
            stops("name byte " + at, TarArchive.ERR_NAME, with(dir("a"), at, 1));
        }
        for (int at = 49; at < 57; at++) {
            stops("prefix byte " + at, TarArchive.ERR_NAME, with(withText(dir("a"), 47, "0"), at, 'b'));
            stops("prefix byte " + at, TarArchive.ERR_NAME, with(dir("a"), at, 'b'));
        }
        stops("prefix byte 48 after a 0", TarArchive.ERR_NAME, with(dir("a"), 48, 'b'));
    }

    private static void emptyName() {
        stops("an empty name", TarArchive.ERR_NAME, dir(""));
        stops("an empty name and a prefix", TarArchive.ERR_NAME, withText(dir(""), 47, "0"));
        stops("an empty name and a prefix of 10", TarArchive.ERR_NAME, withText(dir(""), 47, "0/bcde/fgh"));
    }

    private static void badPath() {
        String[] names = {"/", "/a", "a/", "0//a", "A", "a.", "abcde", "0/abcde", "abcdefghijkl", "0/A", "\u00e1", "a\u0080"};
        for (String name : names) {
            stops("the name " + name, TarArchive.ERR_NAME, dir(name));
            stops("the name " + name + " with a prefix", TarArchive.ERR_NAME, withText(dir(name), 47, "0"));
        }
        for (String prefix : new String[] {"/", "/0", "0/", "0//1", "A", ".", "abcde", "abcdefghij", "0/0/0/0/0/", "\u00b0"}) {
            stops("the prefix " + prefix, TarArchive.ERR_NAME, withText(dir("a"), 47, prefix));
        }
        read("6 components", 6, -1, 6, dir("a"), dir("a/b"), dir("a/b/c"), withText(dir("c/d"), 47, "a/b"), dir("a/b/c/d/e"),
            dir("a/b/c/d/e/f"), END, END);
        stops("7 components", TarArchive.ERR_NAME, withText(dir("a/b/c/d/e/f"), 47, "0"));
        stops("7 components, split late", TarArchive.ERR_NAME, withText(dir("e/f"), 47, "0/a/b/c/d"));
        stops("11 components", TarArchive.ERR_NAME, withText(dir("a/b/c/d/e/f"), 47, "0/a/b/c/d"));
    }

    private static void pathOfName() {
        TarArchive x = read("no prefix", 3, -1, 3, dir("a"), dir("a/b"), file("a/b/c", 0), END, END);
        Kit.due("the tree", Kit.tree(x, 1),
            "3: [3 -1 97 420 0 -1 | -2 -2] [3 0 98 420 0 -1 | -2 -2] [1 1 99 420 0 -1 | -2 -2]");
    }

    /** The same path, split at each of its slashes. */
    private static void pathOfBoth() {
        int[][] splits = {file("a/b/c", 0), withText(file("b/c", 0), 47, "a"), withText(file("c", 0), 47, "a/b")};
        for (int[] split : splits) {
            TarArchive x = read("a path in two", 3, -1, 3, dir("a"), withText(dir("b"), 47, "a"), split, END, END);
            Kit.due("the tree", Kit.tree(x, 1),
                "3: [3 -1 97 420 0 -1 | -2 -2] [3 0 98 420 0 -1 | -2 -2] [1 1 99 420 0 -1 | -2 -2]");
        }
        for (int length = 1; length <= 10; length++) {
            TarArchive x = Kit.chain(pathOf(length));
            x.create();
            int blocks = x.archiveLength() / 64 - 2;
            x.truncateArchive(64 * blocks);
            Kit.feed(x, withText(dir("q"), 47, pathOf(length)));
            Kit.feed(x, new int[128]);
            extract(x, "a prefix of " + length, blocks + 1, -1, blocks + 1);
            Kit.due("its parent", x.nodeInfo(1, blocks, TarArchive.INFO_PARENT), blocks - 1);
        }
    }

    private static void tooMany() {
        int[][] headers = {dir("z"), file("z", 0), file("z", 1), link("z", "f0")};
        for (int maxNodes = 2; maxNodes <= 8; maxNodes++) {
            for (int[] header : headers) {
                TarArchive x = new TarArchive(maxNodes, 12);
                for (int i = 0; i < maxNodes; i++) {
                    Kit.feed(x, file("f" + i, 0));
                }
                Kit.feed(x, header);
                Kit.feed(x, new int[128]);
                extract(x, "a node more than " + maxNodes, TarArchive.ERR_TOO_MANY, maxNodes, maxNodes);
                x.truncateArchive(64 * maxNodes);
                Kit.feed(x, new int[128]);
                extract(x, "as many as " + maxNodes, maxNodes, -1, maxNodes);
            }
        }
    }

    private static void parents() {
        stops("no such DIR", TarArchive.ERR_PARENT, dir("a/b"));
        stops("no such DIR, by prefix", TarArchive.ERR_PARENT, withText(dir("b"), 47, "a"));
        stops("no such DIR in a path of six", TarArchive.ERR_PARENT, dir("a/b/c/d/e/f"));
        read("a FILE", TarArchive.ERR_PARENT, 1, 1, file("a", 0), dir("a/b"), END, END);
        read("a LINK", TarArchive.ERR_PARENT, 2, 2, file("a", 0), link("l", "a"), dir("l/b"), END, END);
        read("only the DIR above it", TarArchive.ERR_PARENT, 1, 1, dir("a"), dir("a/b/c"), END, END);
        read("a DIR of that name elsewhere", TarArchive.ERR_PARENT, 2, 2, dir("a"), dir("a/b"), dir("b/c"), END, END);
        read("a DIR of its last name", TarArchive.ERR_PARENT, 2, 2, dir("a"), dir("b"), dir("a/b/c"), END, END);
        read("a DIR of a longer name", TarArchive.ERR_PARENT, 1, 1, dir("ab"), dir("a/c"), END, END);
        read("a DIR of a shorter name", TarArchive.ERR_PARENT, 1, 1, dir("a"), dir("ab/c"), END, END);
        read("a DIR that comes later", TarArchive.ERR_PARENT, 0, 0, dir("a/b"), dir("a"), END, END);
        read("the path of one component", 1, -1, 1, dir("a"), END, END);
        read("the DIR itself", 2, -1, 2, dir("a"), dir("a/b"), END, END);
        // What an earlier extraction left is no DIR of this one, and the source tree has none for it.
        TarArchive x = read("a DIR", 1, -1, 1, dir("a"), END, END);
        Kit.dir(x, -1, "a");
        Kit.load(x, dir("a/b"), END, END);
        extract(x, "a DIR of an earlier extraction", TarArchive.ERR_PARENT, 0, 0);
    }

    private static void duplicates() {
        int[][] again = {dir("a"), file("a", 0), file("a", 1), link("a", "a")};
        for (int[] second : again) {
            read("a FILE's path again", TarArchive.ERR_DUPLICATE, 1, 1, file("a", 0), second, END, END);
            read("a DIR's path again", TarArchive.ERR_DUPLICATE, 1, 1, dir("a"), second, END, END);
            read("a LINK's path again", TarArchive.ERR_DUPLICATE, 2, 2, file("f", 0), link("a", "f"), second, END, END);
        }
        read("split otherwise", TarArchive.ERR_DUPLICATE, 2, 2, dir("a"), dir("a/b"), withText(dir("b"), 47, "a"), END, END);
        read("the same name elsewhere", 4, -1, 4, dir("a"), dir("a/a"), dir("b"), dir("b/a"), END, END);
    }

    private static void linknameOfOthers() {
        for (int at = 27; at <= 38; at++) {
            stops("a DIR, byte " + at, TarArchive.ERR_LINK, with(dir("a"), at, 1));
            stops("a FILE, byte " + at, TarArchive.ERR_LINK, with(file("a", 0), at, 255));
            stops("a FILE with data, byte " + at, TarArchive.ERR_LINK, with(file("a", 1), at, 'a'));
        }
    }

    private static void linknameForm() {
        for (int after = 2; after < 12; after++) {
            int[] header = with(link("l", "f"), 27 + after, 'x');
            read("linkname byte " + after, TarArchive.ERR_LINK, 1, 1, file("f", 0), header, END, END);
            header = with(link("l", "f"), 27 + after, 1);
            read("linkname byte " + after, TarArchive.ERR_LINK, 1, 1, file("f", 0), header, END, END);
        }
        read("a 0 first", TarArchive.ERR_LINK, 1, 1, file("f", 0), link("l", "\0f"), END, END);
    }

    private static void linknames() {
        String[] bad = {"", "d", "x", "l", "g", "m", "/f", "f/", "d/", "d//g", "/d/g", "d/g/", "f/g", "F", "ff", "late", "f ",
            "d/ggggg", "a/b/c/d/e/f", "/", "////////////", "abcdefghijkl"};
        for (String target : bad) {
            read("the linkname '" + target + "'", TarArchive.ERR_LINK, 4, 4, dir("d"), file("d/g", 0), link("d/m", "d/g"),
                file("f", 0), link("l", target), file("late", 0), END, END);
        }
        for (String target : new String[] {"f", "d/g", "d/m"}) {
            read("the linkname '" + target + "'", 5, -1, 5, dir("d"), file("d/g", 0), link("d/m", "d/g"), file("f", 0),
                link("l", target), END, END);
        }
        // No other byte stands for the slash or for a character of the name.
        for (int c = 1; c <= 255; c++) {
            for (String target : new String[] {"d" + (char) c + "g", "d/" + (char) c, (char) c + "/g", "" + (char) c}) {
                boolean there = target.equals("d/g") || target.equals("f");
                read("the linkname '" + target + "'", there ? 4 : TarArchive.ERR_LINK, there ? -1 : 3, there ? 4 : 3, dir("d"),
                    file("d/g", 0), file("f", 0), link("l", target), END, END);
            }
        }
        // A FILE of the source tree, or of an earlier extraction, is no target.
        TarArchive x = read("a FILE", 1, -1, 1, file("f", 0), END, END);
        Kit.load(x, link("l", "f"), END, END);
        extract(x, "a FILE of an earlier extraction", TarArchive.ERR_LINK, 0, 0);
        Kit.load(x, link("l", "src"), END, END);
        extract(x, "a FILE of the source tree", TarArchive.ERR_LINK, 0, 0);
    }

    private static void noData() {
        for (int size = 1; size <= 32; size++) {
            for (int length : new int[] {0, 1, size, 32, 63}) {
                read("L cut " + length + " bytes into the data", TarArchive.ERR_TRUNCATED, 1, 0, file("f", size), new int[length]);
                read("the same behind a DIR", TarArchive.ERR_TRUNCATED, 2, 1, dir("d"), file("f", size), new int[length]);
            }
            read("the data whole", TarArchive.ERR_TRUNCATED, 2, 1, file("f", size), END);
        }
        read("no data and an empty FILE", TarArchive.ERR_TRUNCATED, 1, 1, file("f", 0));
        TarArchive x = new TarArchive(8, 4);
        Kit.load(x, dir("a"), dir("b"), dir("c"), file("f", 1));
        extract(x, "no room for the data", TarArchive.ERR_TRUNCATED, 4, 3);
    }

    private static void padding() {
        for (int size = 1; size <= 32; size++) {
            for (int at = 0; at < 64; at++) {
                int error = at < size ? 2 : TarArchive.ERR_PADDING;
                read("size " + size + ", data byte " + at, error, at < size ? -1 : 2, at < size ? 2 : 1, dir("d"),
                    file("f", size), speck(at), END, END);
            }
        }
    }

    /** Each node that is read gets the next index, and leaves those before it as they were. */
    private static void appended() {
        int[][] blocks = {dir("d"), file("d/f", 0), link("l", "d/f"), dir("d/d"), file("a", 0), link("d/d/m", "l"), dir("c"),
            file("z", 0)};
        String before = "";
        for (int nodes = 1; nodes <= 8; nodes++) {
            TarArchive x = new TarArchive(8, 12);
            Kit.load(x, java.util.Arrays.copyOf(blocks, nodes));
            extract(x, nodes + " headers without an end", TarArchive.ERR_TRUNCATED, nodes, nodes);
            String tree = Kit.tree(x, 1).substring(2);
            Kit.due("the nodes before " + (nodes - 1), tree.substring(0, before.length()), before);
            Kit.due("the nodes more", tree.substring(before.length()).split("\\[", -1).length - 1, 1);
            before = tree;
        }
    }

    private static void kinds() {
        TarArchive x = read("three kinds", 3, -1, 3, file("f", 0), link("l", "f"), dir("d"), END, END);
        Kit.due("typeflag 0", x.nodeInfo(1, 0, TarArchive.INFO_KIND), TarArchive.KIND_FILE);
        Kit.due("typeflag 1", x.nodeInfo(1, 1, TarArchive.INFO_KIND), TarArchive.KIND_LINK);
        Kit.due("typeflag 5", x.nodeInfo(1, 2, TarArchive.INFO_KIND), TarArchive.KIND_DIR);
    }

    private static void madeParents() {
        TarArchive x = read("a tree", 7, -1, 7, dir("a"), dir("b"), file("b/f", 0), dir("a/b"), link("a/b/l", "b/f"),
            dir("a/b/b"), file("f", 0), END, END);
        int[] want = {-1, -1, 1, 0, 3, 3, -1};
        for (int i = 0; i < want.length; i++) {
            Kit.due("parent of " + i, x.nodeInfo(1, i, TarArchive.INFO_PARENT), want[i]);
        }
    }

    private static void madeNames() {
        TarArchive x = read("names", 6, -1, 6, dir("w"), dir("w/xy"), dir("w/xy/z01"), dir("w/xy/_234"), dir("wxyz"),
            withText(dir("9"), 47, "w/xy/_234"), END, END);
        String[] want = {"w", "xy", "z01", "_234", "wxyz", "9"};
        for (int i = 0; i < want.length; i++) {
            Kit.due("name of " + i, x.nodeInfo(1, i, TarArchive.INFO_NAME), Kit.name(want[i]));
        }
    }

    private static void madeModes() {
        for (int mode = 0; mode <= 511; mode++) {
            String digits = String.format("%03o", mode);
            TarArchive x = read("mode " + digits, 2, -1, 2, withText(dir("d"), 12, digits),
                withText(file("f", 0), 12, digits), END, END);
            Kit.due("mode of the DIR", x.nodeInfo(1, 0, TarArchive.INFO_MODE), mode);
            Kit.due("mode of the FILE", x.nodeInfo(1, 1, TarArchive.INFO_MODE), mode);
        }
        // A LINK shows its target's mode, whatever digits its header has.
        TarArchive x = read("a LINK's digits", 2, -1, 2, file("f", 0), withText(link("l", "f"), 12, "777"), END, END);
        Kit.due("mode of the LINK", x.nodeInfo(1, 1, TarArchive.INFO_MODE), 0644);
    }

    private static void madeContents() {
        for (int size = 1; size <= 32; size++) {
            int[] data = Kit.zeros();
            for (int k = 0; k < size; k++) {
                data[k] = 255 - 7 * k;
            }
            TarArchive x = read("size " + size, 2, -1, 2, dir("d"), file("f", size), data, END, END);
            Kit.due("INFO_SIZE", x.nodeInfo(1, 1, TarArchive.INFO_SIZE), size);
            for (int k = 0; k < size; k++) {
                Kit.due("byte " + k, x.nodeByte(1, 1, k), data[k]);
            }
            Kit.due("byte " + size, x.nodeByte(1, 1, size), TarArchive.ERR_ARG);
        }
        // A data block of 0s is data and no end.
        read("data of 0s", 2, -1, 2, file("f", 1), END, dir("d"), END, END);
    }

    private static void emptyFile() {
        TarArchive x = read("an empty FILE", 2, -1, 2, file("f", 0), file("g", 1), speck(0), END, END);
        Kit.due("its size", x.nodeInfo(1, 0, TarArchive.INFO_SIZE), 0);
        Kit.due("its first byte", x.nodeByte(1, 0, 0), TarArchive.ERR_ARG);
        Kit.load(x, file("g", 32), speck(31), END, END);
        extract(x, "a FILE with content in its place", 1, -1, 1);
        Kit.load(x, file("f", 0), END, END);
        extract(x, "an empty FILE in its place", 1, -1, 1);
        Kit.due("its size", x.nodeInfo(1, 0, TarArchive.INFO_SIZE), 0);
        read("an empty FILE and a block that is no header", TarArchive.ERR_CHECKSUM, 1, 1, file("f", 0), speck(0), END, END);
    }

    private static void targetFile() {
        TarArchive x = read("LINKs to FILEs", 6, -1, 6, dir("d"), file("d/f", 0), file("f", 1), speck(0), link("l", "f"),
            link("m", "d/f"), link("d/n", "f"), END, END);
        int[] want = {-1, -1, -1, 2, 1, 2};
        for (int i = 0; i < want.length; i++) {
            Kit.due("target of " + i, x.nodeInfo(1, i, TarArchive.INFO_LINK), want[i]);
        }
    }

    private static void targetOfLink() {
        TarArchive x = read("LINKs to LINKs", 8, -1, 8, dir("d"), file("d/f", 0), link("a", "d/f"), link("b", "a"),
            link("d/c", "b"), link("e", "d/c"), link("f", "e"), link("g", "f"), END, END);
        for (int i = 2; i < 8; i++) {
            Kit.due("target of " + i, x.nodeInfo(1, i, TarArchive.INFO_LINK), 1);
        }
    }

    private static void steps() {
        TarArchive x = read("all kinds in turn", 6, -1, 6, dir("a"), file("b", 0), file("c", 1), speck(0), link("d", "c"),
            file("e", 32), speck(31), file("f", 0), END, END);
        String names = "";
        for (int i = 0; i < 6; i++) {
            names += (char) x.nodeInfo(1, i, TarArchive.INFO_NAME);
        }
        Kit.due("the nodes", names, "abcdef");
        int[][] headers = {dir("a"), file("b", 0), link("d", "q")};
        for (int[] header : headers) {
            read("no data block", TarArchive.ERR_CHECKSUM, 2, 2, file("q", 0), header, speck(0), END, END);
        }
    }
}
