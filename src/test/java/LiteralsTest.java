/** Promise 11 by hand, sentence by sentence: STREAMS, the LITERALS of a PACK and their TREE. */
public final class LiteralsTest {
    private static final Checks CHECKS = new Checks();
    private static final Wires WIRES = new Wires(CHECKS);
    private static final int[] NOTHING = {};
    private static final int[] NO_SEQUENCES = {0};
    // Weights 1 and so 1: the bit 0 is the first symbol, 1 the second.
    private static final int[] TWO = {97, 1, 0x10};
    // Weights 2, 1 and so 1, DEPTH 2: cells 0 and 1 for 51 and 52, 2 and 3 for 50.
    private static final int[] THREE = {50, 2, 0x21};
    // Weights 7 6 5 4 3 2 1 and so 1: the last two have seven bits.
    private static final int[] DEEP = {0, 7, 0x76, 0x54, 0x32, 0x10};

    public static void main(String[] args) {
        bytesOfAStream();
        bitsOfAStream();
        bitsAsNumbers();
        streamsAreUsedUp();
        nothingMore();
        counts();
        plain();
        repeated();
        withTree();
        latestTree();
        symbols();
        brokenBehindGood();
        firstAndN();
        halves();
        weights();
        sumIsNotZero();
        depthAtMost7();
        restIsAPowerOf2();
        cellsInOrder();
        zerosBehind();
        CHECKS.end();
    }

    private static void bytesOfAStream() {
        CHECKS.words("A STREAM of s bytes, s at least 1, the last one not 0:");
        int[] head = Bytes.join(Bytes.row(4 << 2 | 2), TWO);
        int[] out = Bytes.row(97, 98, 98, 97);
        WIRES.goodPack("four bits", out, head, Bytes.row(1, 0x16), NO_SEQUENCES);
        WIRES.badPack("s is 0", 4, head, Bytes.row(0), NO_SEQUENCES);
        WIRES.badPack("s is 0 ahead of a good byte", 4, head, Bytes.row(0, 0x16), NO_SEQUENCES);
        WIRES.badPack("a last byte 0", 4, head, Bytes.row(2, 0x16, 0), NO_SEQUENCES);
        WIRES.badPack("two last bytes 0", 4, head, Bytes.row(3, 0x16, 0, 0), NO_SEQUENCES);
        WIRES.badPack("only a byte 0", 4, head, Bytes.row(1, 0), NO_SEQUENCES);
        WIRES.badPack("no s", 4, head);
        WIRES.badPack("s and no byte", 4, head, Bytes.row(1));
        WIRES.badPack("s beyond the PACK", 4, head, Bytes.row(3, 0x16), NO_SEQUENCES);
        WIRES.badPack("s is 255", 4, head, Bytes.row(255, 0x16), NO_SEQUENCES);
        WIRES.bad("s beyond the PACK, with bytes there", 0, Bytes.frame(4,
            Bytes.packBlock(false, head, Bytes.row(2, 0x66)), Bytes.row(1, 0), Bytes.block(0, true, 0)));
        // A last byte 0 takes no bits from the others: seven or eight of them, whatever the highest one is.
        for (int n = 0; n <= 16; n++) {
            for (int b : new int[] {0x00, 0x01, 0x55, 0x80, 0xD5, 0xFF}) {
                WIRES.badPack(n + " bits of " + b + " and 0", n, Bytes.row(n << 2 | 2), TWO, Bytes.row(2, b, 0), NO_SEQUENCES);
                WIRES.badPack(n + " bits of 0, " + b + " and 0", n,
                    Bytes.row(n << 2 | 2), TWO, Bytes.row(3, 0, b, 0), NO_SEQUENCES);
            }
        }
        // No bits at all: the byte 1.
        WIRES.goodPack("no bits", NOTHING, Bytes.row(2), TWO, Bytes.row(1, 1), NO_SEQUENCES);
        WIRES.badPack("no bits and no byte", 0, Bytes.row(2), TWO, Bytes.row(0), NO_SEQUENCES);
        WIRES.badPack("no bits in two bytes", 0, Bytes.row(2), TWO, Bytes.row(2, 1, 0), NO_SEQUENCES);
        // The STREAM of the sequences, of tables of one state.
        int[] sequence = Bytes.row(1 << 2, 97, 1, 0x54, 1, 0, 0);
        WIRES.goodPack("the last STREAM", Bytes.times(97, 4), sequence, Bytes.row(1));
        WIRES.badPack("no last STREAM", 4, sequence);
        WIRES.badPack("a last STREAM of 0", 4, sequence, Bytes.row(0));
        WIRES.badPack("a last STREAM that ends with 0", 4, sequence, Bytes.row(1, 0));
    }

    private static void bitsOfAStream() {
        CHECKS.words("as a number whose lowest byte stands first it is, in binary, a 1 and then its BITS, the "
            + "first one highest.");
        // 1 0111 0010: the bits 0111 0010, and 0x72 stands first.
        WIRES.goodPack("eight bits", Bytes.row(97, 98, 98, 98, 97, 97, 98, 97),
            Bytes.row(8 << 2 | 2), TWO, Bytes.row(2, 0x72, 1), NO_SEQUENCES);
        WIRES.goodPack("seven bits", Bytes.row(98, 97, 97, 97, 97, 97, 97),
            Bytes.row(7 << 2 | 2), TWO, Bytes.row(1, 0xC0), NO_SEQUENCES);
        WIRES.badPack("the highest byte first", 8, Bytes.row(8 << 2 | 2), TWO, Bytes.row(2, 1, 0x72), NO_SEQUENCES);
        for (int n = 0; n < 64; n++) {
            StringBuilder bits = new StringBuilder();
            int[] out = new int[n];
            for (int i = 0; i < n; i++) {
                int bit = i * i % 7 % 2;
                bits.append(bit);
                out[i] = 97 + bit;
            }
            int[] stream = Bytes.stream(bits.toString());
            CHECKS.due("bytes for " + n + " bits", stream.length, n / 8 + 1);
            WIRES.goodPack(n + " bits", out, Bytes.row(n << 2 | 2), TWO, Bytes.row(stream.length), stream, NO_SEQUENCES);
        }
    }

    private static void bitsAsNumbers() {
        CHECKS.words("They are TAKEN from the first one on; taken n at a time they are a number, the first one "
            + "highest.");
        // M of code 11: 25 and 7 bits more; L of code 1, B of code 0.
        for (int more : new int[] {0, 1, 2, 64, 65, 94}) {
            WIRES.goodPack(more + " by 7 bits", Bytes.times(97, 26 + more), Bytes.row(1 << 2, 97, 1, 0x54, 1, 0, 11),
                Bytes.stream(Wires.binary(more, 7)));
        }
    }

    private static void streamsAreUsedUp() {
        CHECKS.words("A STREAM must be used up exactly: no bit more, no bit less.");
        for (int n = 0; n < 20; n++) {
            String bits = "01101001100101101001".substring(0, n);
            WIRES.badPack(n + " symbols, a bit 0 more", n, Wires.treed(n, TWO, bits + "0"), NO_SEQUENCES);
            WIRES.badPack(n + " symbols, a bit 1 more", n, Wires.treed(n, TWO, bits + "1"), NO_SEQUENCES);
            WIRES.badPack(n + " symbols, eight bits more", n, Wires.treed(n, TWO, bits + "00000000"), NO_SEQUENCES);
            WIRES.badPack(n + " symbols and one more", n + 1, Wires.treed(n + 1, TWO, bits), NO_SEQUENCES);
        }
        WIRES.badPack("half a symbol of two bits", 2, Wires.treed(2, THREE, "1 0"), NO_SEQUENCES);
        WIRES.badPack("six of seven bits", 1, Wires.treed(1, DEEP, "000000"), NO_SEQUENCES);
        WIRES.badPack("none of seven bits", 1, Wires.treed(1, DEEP, ""), NO_SEQUENCES);
        // The same for sequences: B of code 2 has two bits.
        int[] sequence = Bytes.row(1 << 2, 97, 1, 0x54, 1, 2, 0);
        WIRES.goodPack("a sequence of two bits", Bytes.times(97, 4), sequence, Bytes.stream("00"));
        WIRES.badPack("one bit less", 4, sequence, Bytes.stream("0"));
        WIRES.badPack("two bits less", 4, sequence, Bytes.stream(""));
        WIRES.badPack("one bit more", 4, sequence, Bytes.stream("000"));
        WIRES.badPack("eight bits more", 4, sequence, Bytes.stream("00 0000 0000"));
    }

    private static void nothingMore() {
        CHECKS.words("A PACK is LITERALS and SEQUENCES and nothing more.");
        WIRES.goodPack("both", NOTHING, Bytes.row(0, 0));
        WIRES.badPack("neither", 0);
        WIRES.badPack("no SEQUENCES", 0, Bytes.row(0));
        WIRES.badPack("no SEQUENCES behind literals", 2, Bytes.row(2 << 2, 5, 6));
        WIRES.badPack("no SEQUENCES behind a TREE", 1, Wires.treed(1, TWO, "1"));
        WIRES.badPack("a byte more", 0, Bytes.row(0, 0, 0));
        WIRES.badPack("a byte more behind literals", 2, Bytes.row(2 << 2, 5, 6, 0, 0));
        WIRES.badPack("a byte more behind a TREE", 1, Wires.treed(1, TWO, "1"), Bytes.row(0, 1));
        WIRES.badPack("as good as two PACKS", 2, Bytes.row(1 << 2, 5, 0, 1 << 2, 5, 0));
    }

    private static void counts() {
        CHECKS.words("LITERALS begin with a byte a; COUNT is a >> 2,");
        for (int n : new int[] {0, 1, 2, 31, 32, 62, 63}) {
            WIRES.goodPack("plain " + n, Bytes.times(4, n), Bytes.row(n << 2), Bytes.times(4, n), NO_SEQUENCES);
            WIRES.goodPack("repeated " + n, Bytes.times(4, n), Bytes.row(n << 2 | 1, 4), NO_SEQUENCES);
            WIRES.goodPack("with a TREE " + n, Bytes.times(98, n), Wires.treed(n, TWO, "1".repeat(n)), NO_SEQUENCES);
        }
    }

    private static void plain() {
        CHECKS.words("0: COUNT bytes follow.");
        WIRES.goodPack("two", Bytes.row(0, 255), Bytes.row(2 << 2, 0, 255), NO_SEQUENCES);
        WIRES.badPack("cut short", 2, Bytes.row(2 << 2, 5));
        WIRES.badPack("one less, and so no SEQUENCES", 2, Bytes.row(2 << 2, 5), NO_SEQUENCES);
        WIRES.badPack("63 and none there", 63, Bytes.row(63 << 2));
        WIRES.bad("bytes behind the PACK", 0, Bytes.frame(2,
            Bytes.block(2, false, 2, 2 << 2, 5), Bytes.row(6, 0), Bytes.block(0, true, 0)));
    }

    private static void repeated() {
        CHECKS.words("1: one byte follows, which stands COUNT times.");
        WIRES.goodPack("none", NOTHING, Bytes.row(1, 9), NO_SEQUENCES);
        WIRES.goodPack("one", Bytes.row(255), Bytes.row(1 << 2 | 1, 255), NO_SEQUENCES);
        WIRES.goodPack("63", Bytes.times(0, 63), Bytes.row(63 << 2 | 1, 0), NO_SEQUENCES);
        WIRES.badPack("no byte", 0, Bytes.row(1));
        WIRES.badPack("no byte of its own", 1, Bytes.row(1 << 2 | 1, 0));
        WIRES.badPack("two bytes", 2, Bytes.row(2 << 2 | 1, 9, 9, 0));
    }

    private static void withTree() {
        CHECKS.words("2: a TREE follows, then a byte s and a STREAM of s bytes.");
        WIRES.goodPack("three symbols", Bytes.row(50, 51, 52, 50), Wires.treed(4, THREE, "1 00 01 1"), NO_SEQUENCES);
        int[] whole = Bytes.join(Wires.treed(4, THREE, "1 00 01 1"), NO_SEQUENCES);
        for (int n = 0; n < whole.length; n++) {
            WIRES.badPack("the first " + n + " bytes", 4, java.util.Arrays.copyOf(whole, n));
        }
        WIRES.goodPack("with sequences", Bytes.row(97, 98, 98, 98, 98), Wires.treed(2, TWO, "01"),
            Bytes.row(1, 0x54, 2, 0, 0), Bytes.stream(""));
        WIRES.goodPack("with a literal left", Bytes.row(97, 97, 97, 97, 98), Wires.treed(2, TWO, "01"),
            Bytes.row(1, 0x54, 1, 0, 0), Bytes.stream(""));
    }

    private static void latestTree() {
        CHECKS.words("3: a byte s and a STREAM of s bytes, with the latest TREE of the frame (there must be one).");
        int[] lower = Bytes.packBlock(false, Wires.treed(1, TWO, "1"), NO_SEQUENCES);
        int[] upper = Bytes.packBlock(false, Wires.treed(1, Bytes.row(65, 1, 0x10), "1"), NO_SEQUENCES);
        int[] again = Bytes.packBlock(true, Bytes.row(2 << 2 | 3, 1, 0x05), NO_SEQUENCES);
        int[] plain = Bytes.packBlock(false, Bytes.row(1 << 2, 5), NO_SEQUENCES);
        WIRES.good("again", Bytes.frame(3, lower, again), Bytes.row(98, 97, 98));
        WIRES.good("again, later", Bytes.frame(5, lower, plain, Bytes.block(0, false, 1, 7), again),
            Bytes.row(98, 5, 7, 97, 98));
        WIRES.good("the latest", Bytes.frame(4, lower, upper, again), Bytes.row(98, 66, 65, 66));
        WIRES.good("twice", Bytes.frame(5, lower, Bytes.packBlock(false, Bytes.row(2 << 2 | 3, 1, 0x05, 0)), again),
            Bytes.row(98, 97, 98, 97, 98));
        // A TREE is the latest even if no literal is taken with it.
        int[] unused = Bytes.packBlock(false, Wires.treed(0, TWO, ""), NO_SEQUENCES);
        WIRES.good("one of which nothing was taken", Bytes.frame(3, upper, unused, again), Bytes.row(66, 97, 98));
        WIRES.bad("none yet", 0, Bytes.frame(2, again));
        WIRES.bad("none yet for no literals", 0,
            Bytes.frame(0, Bytes.packBlock(true, Bytes.row(3, 1, 1), NO_SEQUENCES)));
        // A byte 0, which would do for no SEQUENCES if no TREE and no STREAM were asked for.
        WIRES.badPack("none yet and no STREAM", 0, Bytes.row(3, 0));
        WIRES.badPack("none yet and a byte 0 behind", 0, Bytes.row(3, 0, 0));
        WIRES.bad("none yet behind other literals", 0, Bytes.frame(3, plain, again));
        int[] frame = Bytes.frame(3, lower, again);
        WIRES.bad("that of another frame", frame.length, Bytes.join(frame, Bytes.frame(2, again)));
        WIRES.bad("no s", 0, Bytes.frame(1, lower, Bytes.packBlock(true, Bytes.row(3))));
        WIRES.bad("s is 0", 0, Bytes.frame(1, lower, Bytes.packBlock(true, Bytes.row(3, 0), NO_SEQUENCES)));
        WIRES.bad("a bit too many", 0, Bytes.frame(2, lower, Bytes.packBlock(true, Bytes.row(1 << 2 | 3, 1, 4, 0))));
        WIRES.bad("a bit too few", 0, Bytes.frame(3, lower, Bytes.packBlock(true, Bytes.row(2 << 2 | 3, 1, 3, 0))));
    }

    private static void symbols() {
        CHECKS.words("For 2 and 3 each literal is a symbol of the TREE, COUNT of them.");
        WIRES.goodPack("two", Bytes.row(97, 98), Wires.treed(2, TWO, "01"), NO_SEQUENCES);
        WIRES.badPack("one of two bits", 1, Wires.treed(1, TWO, "01"), NO_SEQUENCES);
        WIRES.badPack("three of two bits", 3, Wires.treed(3, TWO, "01"), NO_SEQUENCES);
        WIRES.goodPack("none", NOTHING, Wires.treed(0, TWO, ""), NO_SEQUENCES);
        WIRES.badPack("none of one bit", 0, Wires.treed(0, TWO, "1"), NO_SEQUENCES);
    }

    private static void brokenBehindGood() {
        CHECKS.words("For 2 and 3 each literal is a symbol of the TREE, COUNT of them.");
        // A TREE that is not as it must be is not made good by the one before it.
        int[] good = Bytes.packBlock(false, Wires.treed(2, TWO, "01"), NO_SEQUENCES);
        int[][] broken = {{97, 0}, {97, 17, 0x10, 0, 0, 0, 0, 0, 0, 0, 0}, {255, 1, 0x10}, {97, 1, 0x80}, {97, 1, 0x11},
            {97, 1, 0x00}, {97, 2, 0x77}, {97, 2, 0x31}};
        for (int[] tree : broken) {
            WIRES.bad("a TREE " + Bytes.show(tree) + " behind a good one", 0, Bytes.frame(4, good,
                Bytes.packBlock(true, Wires.treed(2, tree, "01"), NO_SEQUENCES)));
            WIRES.bad("a TREE " + Bytes.show(tree) + " behind a good one, no symbols", 0, Bytes.frame(2, good,
                Bytes.packBlock(true, Wires.treed(0, tree, ""), NO_SEQUENCES)));
            WIRES.bad("a TREE " + Bytes.show(tree) + " behind a good one, and a byte 0", 0, Bytes.frame(2, good,
                Bytes.packBlock(true, Bytes.row(2), tree, Bytes.row(0))));
        }
        // Weights that are cut short are not those of the TREE before: what is left would be s, STREAM and no SEQUENCES.
        int[] wide = Bytes.packBlock(false, Wires.treed(2, treeOf(97, 16), "01"), NO_SEQUENCES);
        WIRES.bad("weights cut short behind good ones", 0, Bytes.frame(4, wide,
            Bytes.packBlock(true, Wires.treed(2, Bytes.row(97, 16), "01"), NO_SEQUENCES)));
    }

    /** A TREE in which only FIRST and FIRST + n have a weight. */
    private static int[] treeOf(int first, int n) {
        int[] bytes = new int[(n + 1) / 2];
        // One symbol of weight 1 makes the last one's weight 1.
        bytes[0] = 0x10;
        return Bytes.join(Bytes.row(first, n), bytes);
    }

    private static void firstAndN() {
        CHECKS.words("A TREE: FIRST, n (1 .. 16, FIRST + n at most 255),");
        for (int n = 1; n <= 16; n++) {
            WIRES.goodPack("FIRST 0, n " + n, Bytes.row(0, n), Wires.treed(2, treeOf(0, n), "01"), NO_SEQUENCES);
            WIRES.goodPack("FIRST " + (255 - n) + ", n " + n, Bytes.row(255 - n, 255),
                Wires.treed(2, treeOf(255 - n, n), "01"), NO_SEQUENCES);
            WIRES.badPack("FIRST " + (256 - n) + ", n " + n, 2, Wires.treed(2, treeOf(256 - n, n), "00"), NO_SEQUENCES);
            WIRES.badPack("FIRST 255, n " + n, 2, Wires.treed(2, treeOf(255, n), "00"), NO_SEQUENCES);
        }
        for (int n : new int[] {17, 18, 31, 32, 128, 255}) {
            WIRES.badPack("FIRST 0, n " + n, 2, Wires.treed(2, treeOf(0, n), "00"), NO_SEQUENCES);
        }
        WIRES.badPack("n is 0", 0, Wires.treed(0, Bytes.row(97, 0), ""), NO_SEQUENCES);
        WIRES.badPack("n is 0 with weights", 0, Wires.treed(0, Bytes.row(97, 0, 0x10), ""), NO_SEQUENCES);
        WIRES.badPack("n is 0 and a byte 0 behind", 0, Bytes.row(2, 97, 0, 0));
        WIRES.badPack("no FIRST", 0, Bytes.row(2));
        WIRES.badPack("no n", 0, Bytes.row(2, 97));
    }

    private static void halves() {
        CHECKS.words("and (n + 1) / 2 bytes, the WEIGHTS 0 .. 7 of the symbols FIRST .. FIRST + n - 1, "
            + "two in a byte, the first one in its upper half (a lower half that is left is 0).");
        // Weights 1, 0, 2 and so 1: cells 0 for 10, 1 for 13, 2 and 3 for 12.
        WIRES.goodPack("n is 3", Bytes.row(10, 13, 12), Wires.treed(3, Bytes.row(10, 3, 0x10, 0x20), "00 01 1"), NO_SEQUENCES);
        for (int left = 1; left < 16; left++) {
            WIRES.badPack("n is 1 and " + left + " left", 0, Wires.treed(0, Bytes.row(97, 1, 0x10 | left), ""), NO_SEQUENCES);
            WIRES.badPack("n is 3 and " + left + " left", 0,
                Wires.treed(0, Bytes.row(10, 3, 0x10, 0x20 | left), ""), NO_SEQUENCES);
            WIRES.badPack("n is 15 and " + left + " left", 0, Wires.treed(0,
                Bytes.row(10, 15, 0x10, 0, 0, 0, 0, 0, 0, left), ""), NO_SEQUENCES);
        }
        WIRES.badPack("cut short", 0, Bytes.row(2, 97, 3, 0x11));
        WIRES.badPack("a byte too many", 0, Wires.treed(0, Bytes.row(97, 2, 0x21, 0x00), ""), NO_SEQUENCES);
        WIRES.badPack("a byte too few", 0, Wires.treed(0, Bytes.row(97, 3, 0x21), ""), NO_SEQUENCES);
    }

    private static void weights() {
        CHECKS.words("the WEIGHTS 0 .. 7 of the symbols");
        for (int w = 1; w <= 7; w++) {
            // A lone weight leaves as many cells again for the last symbol.
            WIRES.goodPack("weight " + w, Bytes.row(97, 98), Wires.treed(2, Bytes.row(97, 1, w << 4), "01"), NO_SEQUENCES);
        }
        for (int w = 8; w < 16; w++) {
            WIRES.badPack("weight " + w, 0, Wires.treed(0, Bytes.row(97, 1, w << 4), ""), NO_SEQUENCES);
            WIRES.badPack("a lower weight " + w, 0, Wires.treed(0, Bytes.row(97, 2, 0x10 | w), ""), NO_SEQUENCES);
            WIRES.badPack("a lone lower weight " + w, 0, Wires.treed(0, Bytes.row(97, 2, w), ""), NO_SEQUENCES);
        }
        WIRES.goodPack("16 weights 0 but the last", Bytes.row(25, 26),
            Wires.treed(2, Bytes.row(10, 16, 0, 0, 0, 0, 0, 0, 0, 0x03), "01"), NO_SEQUENCES);
    }

    private static void sumIsNotZero() {
        CHECKS.words("SUM is what 2 ^ (w - 1) is over the weights w that are not 0 (not 0 itself),");
        for (int n = 1; n <= 16; n++) {
            int[] zeros = Bytes.join(Bytes.row(10, n), new int[(n + 1) / 2]);
            WIRES.badPack("SUM 0 of " + n, 0, Wires.treed(0, zeros, ""), NO_SEQUENCES);
            WIRES.badPack("SUM 0 of " + n + ", one symbol", 1, Wires.treed(1, zeros, ""), NO_SEQUENCES);
            WIRES.badPack("SUM 0 of " + n + ", a bit", 1, Wires.treed(1, zeros, "0"), NO_SEQUENCES);
        }
        WIRES.goodPack("SUM 1", Bytes.row(11, 12), Wires.treed(2, Bytes.row(10, 2, 0x01), "01"), NO_SEQUENCES);
    }

    private static void depthAtMost7() {
        CHECKS.words("2 ^ DEPTH the least power of 2 above SUM, DEPTH at most 7;");
        // SUM 64 is a power of 2 already: the least one above it is 128.
        WIRES.goodPack("SUM 64", Bytes.row(254, 255), Wires.treed(2, Bytes.row(254, 1, 0x70), "0 1"), NO_SEQUENCES);
        // SUM 127: v is 1.
        WIRES.goodPack("SUM 127", Bytes.row(0, 1, 5, 6, 7), Wires.treed(5, DEEP, "1 01 000001 0000000 0000001"), NO_SEQUENCES);
        WIRES.badPack("SUM 128", 0, Wires.treed(0, Bytes.row(97, 2, 0x77), ""), NO_SEQUENCES);
        WIRES.badPack("SUM 192", 0, Wires.treed(0, Bytes.row(97, 3, 0x77, 0x70), ""), NO_SEQUENCES);
        WIRES.badPack("SUM 255", 0, Wires.treed(0, Bytes.row(97, 8, 0x77, 0x65, 0x43, 0x21), ""), NO_SEQUENCES);
        WIRES.badPack("SUM 256", 0, Wires.treed(0, Bytes.row(97, 4, 0x77, 0x77), ""), NO_SEQUENCES);
        WIRES.badPack("SUM 1024", 0, Wires.treed(0, Bytes.join(Bytes.row(97, 16), Bytes.times(0x77, 8)), ""), NO_SEQUENCES);
        // 16 of weight 1: DEPTH 5, and v is 5.
        WIRES.goodPack("SUM 16", Bytes.row(239, 254, 255), Wires.treed(3,
            Bytes.join(Bytes.row(239, 16), Bytes.times(0x11, 8)), "00000 01111 1"), NO_SEQUENCES);
    }

    private static boolean makesATree(int... weights) {
        int sum = 0;
        for (int w : weights) {
            sum += w == 0 ? 0 : (int) Math.pow(2, w - 1);
        }
        for (int power = 2; power <= 128 && sum > 0; power *= 2) {
            if (power > sum) {
                int rest = power - sum;
                return java.util.List.of(1, 2, 4, 8, 16, 32, 64).contains(rest);
            }
        }
        return false;
    }

    private static void restIsAPowerOf2() {
        CHECKS.words("2 ^ DEPTH - SUM must be a power of 2, 2 ^ (v - 1), and v is the weight of FIRST + n.");
        // SUM 5 leaves 3; SUM 6 leaves 2.
        WIRES.badPack("a rest of 3", 0, Wires.treed(0, Bytes.row(97, 2, 0x31), ""), NO_SEQUENCES);
        WIRES.goodPack("a rest of 2", NOTHING, Wires.treed(0, Bytes.row(97, 2, 0x32), ""), NO_SEQUENCES);
        for (int a = 0; a < 8; a++) {
            for (int b = 0; b < 8; b++) {
                for (int c = 0; c < 8; c++) {
                    int[] literals = Wires.treed(0, Bytes.row(97, 3, a << 4 | b, c << 4), "");
                    String what = "weights " + a + ", " + b + ", " + c;
                    if (makesATree(a, b, c)) {
                        WIRES.goodPack(what, NOTHING, literals, NO_SEQUENCES);
                    } else {
                        WIRES.badPack(what, 0, literals, NO_SEQUENCES);
                    }
                }
            }
        }
    }

    private static void cellsInOrder() {
        CHECKS.words("The symbols with a weight above 0, those of lesser weight first, of equal ones the lesser "
            + "symbol, "
            + "have the next 2 ^ (w - 1) of the CELLS 0 .. 2 ^ DEPTH - 1 each.");
        // Weights 2, 0, 1, 3, 1 and SUM 8, so v is 4 and DEPTH 4: cells 22: 0, 24: 1, 20: 2 and 3, 23: 4 to 7, 25: 8 to 15.
        int[] tree = Bytes.row(20, 5, 0x20, 0x13, 0x10);
        WIRES.goodPack("five symbols", Bytes.row(20, 22, 23, 24, 25),
            Wires.treed(5, tree, "001 0000 01 0001 1"), NO_SEQUENCES);
        // The last symbol has its place among those of equal weight too: weights 1, 2 and so 1.
        WIRES.goodPack("the last of the least weight", Bytes.row(30, 32, 31),
            Wires.treed(3, Bytes.row(30, 2, 0x12), "00 01 1"), NO_SEQUENCES);
        WIRES.goodPack("all of DEPTH 7", Bytes.row(0, 1, 2, 3, 4, 5, 6, 7),
            Wires.treed(8, DEEP, "1 01 001 0001 00001 000001 0000000 0000001"), NO_SEQUENCES);
    }

    private static void zerosBehind() {
        CHECKS.words("To take a symbol: it is that in whose cells the next DEPTH bits (with 0s behind the last "
            + "bit of the STREAM) "
            + "as a number are, and DEPTH + 1 - w bits are taken.");
        WIRES.goodPack("one bit of two left", Bytes.row(51, 50), Wires.treed(2, THREE, "00 1"), NO_SEQUENCES);
        WIRES.goodPack("one bit of seven left", Bytes.row(7, 0), Wires.treed(2, DEEP, "0000001 1"), NO_SEQUENCES);
        WIRES.goodPack("six bits of seven left", Bytes.row(5), Wires.treed(1, DEEP, "000001"), NO_SEQUENCES);
        // With 0s behind, 00000 is a symbol of seven bits, more than there are.
        WIRES.badPack("five bits 0 left", 1, Wires.treed(1, DEEP, "00000"), NO_SEQUENCES);
        // With 1s behind, the bits 01 0 would be those of 52 and not of 51, which is one bit short as well.
        WIRES.badPack("a half symbol", 2, Wires.treed(2, THREE, "01 0"), NO_SEQUENCES);
        // 16 symbols of weight 1 and one of 5: a bit 1 alone, with 0s behind, is cell 16, the last symbol's.
        WIRES.goodPack("cell 16 of 32", Bytes.row(16), Wires.treed(1,
            Bytes.join(Bytes.row(0, 16), Bytes.times(0x11, 8)), "1"), NO_SEQUENCES);
    }
}
