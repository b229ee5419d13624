import java.util.Arrays;

/** Promise 11 by hand, sentence by sentence: the wire's SKIPS, frames and blocks, and what unpack answers. */
public final class FramesTest {
    private static final Checks CHECKS = new Checks();
    private static final Wires WIRES = new Wires(CHECKS);
    private static final int[] NOTHING = {};

    public static void main(String[] args) {
        wire();
        skips();
        signOfCheck();
        size();
        blocksOfAFrame();
        checkBytes();
        sizeInTheEnd();
        checkIsTheMark();
        headOfABlock();
        lengthOfABlock();
        lastBlock();
        rawBlocks();
        runs();
        packs();
        type3();
        notLongerThanSize();
        outsBehindOneAnother();
        refusedChangesNothing();
        firstRefused();
        atMost120();
        everyPrefixIsRefused();
        CHECKS.end();
    }

    private static void wire() {
        CHECKS.words("The wire is a row of FRAMES and SKIPS.");
        WIRES.good("an empty wire", NOTHING, NOTHING);
        WIRES.good("frames and SKIPS", Bytes.join(Wires.run(5, 2), Bytes.row(83, 1, 9), Wires.run(6, 1),
            Bytes.row(83, 0, 83, 0), Wires.run(7, 3)), Bytes.row(5, 5, 6, 7, 7, 7));
        for (int sign = 0; sign < 256; sign++) {
            if (sign != 83 && sign != 90) {
                WIRES.bad("sign " + sign, 0, Bytes.row(sign, 0, 0, 0, 1, 0));
                WIRES.bad("sign " + sign + " behind a frame", 7, Bytes.join(Wires.run(5, 2), Bytes.row(sign, 0)));
            }
        }
    }

    private static void skips() {
        CHECKS.words("A SKIP: 83, a byte n, n bytes that say nothing.");
        WIRES.good("a SKIP of none", Bytes.row(83, 0), NOTHING);
        WIRES.good("a SKIP of signs", Bytes.row(83, 3, 90, 83, 0), NOTHING);
        WIRES.good("120 SKIPS of none", Bytes.join(skipsOfNone(120)), NOTHING);
        WIRES.good("the longest SKIP", Bytes.join(Bytes.row(83, 238), Bytes.times(1, 238)), NOTHING);
        WIRES.bad("one byte more", 0, Bytes.join(Bytes.row(83, 239), Bytes.times(1, 238)));
        WIRES.bad("a SKIP of 255", 0, Bytes.join(Bytes.row(83, 255), Bytes.times(1, 238)));
        WIRES.bad("a SKIP without n", 0, Bytes.row(83));
        WIRES.bad("a SKIP without n behind another", 3, Bytes.row(83, 1, 7, 83));
        WIRES.bad("a SKIP of 1 without its byte", 0, Bytes.row(83, 1));
        for (int n : new int[] {1, 2, 20, 21, 100, 200}) {
            WIRES.good("a SKIP of " + n, Bytes.join(Bytes.row(83, n), Bytes.times(90, n)), NOTHING);
            WIRES.bad("a SKIP of " + n + " cut short", 0, Bytes.join(Bytes.row(83, n), Bytes.times(90, n - 1)));
        }
    }

    private static int[][] skipsOfNone(int n) {
        int[][] skips = new int[n][];
        Arrays.fill(skips, Bytes.row(83, 0));
        return skips;
    }

    private static void signOfCheck() {
        CHECKS.words("A FRAME: 90; 0, or 1 if a CHECK stands at its end;");
        WIRES.good("0", Bytes.row(90, 0, 0, 0, 1, 0), NOTHING);
        WIRES.good("1", Bytes.row(90, 1, 0, 0, 1, 0, 0, 0), NOTHING);
        WIRES.bad("0 with a CHECK", 6, Bytes.row(90, 0, 0, 0, 1, 0, 0, 0));
        WIRES.bad("1 without a CHECK", 0, Bytes.row(90, 1, 0, 0, 1, 0));
        WIRES.bad("neither", 0, Bytes.row(90));
        for (int sign = 2; sign < 256; sign++) {
            WIRES.bad(sign + " without a CHECK", 0, Bytes.row(90, sign, 0, 0, 1, 0));
            WIRES.bad(sign + " with a CHECK", 0, Bytes.row(90, sign, 0, 0, 1, 0, 0, 0));
        }
    }

    private static void size() {
        CHECKS.words("its SIZE, two bytes, the lower first;");
        WIRES.good("SIZE 1", Bytes.row(90, 0, 1, 0, 9, 0, 7), Bytes.row(7));
        WIRES.bad("SIZE 1, the upper first", 0, Bytes.row(90, 0, 0, 1, 9, 0, 7));
        WIRES.bad("SIZE 257", 0, Bytes.row(90, 0, 1, 1, 9, 0, 7));
        // 256 bytes of OUT would be SIZE 0 if the upper byte were left out.
        WIRES.bad("SIZE 256", 0, Bytes.row(90, 0, 0, 1, 1, 0));
        WIRES.bad("SIZE 32768", 0, Bytes.row(90, 0, 0, 128, 1, 0));
        WIRES.bad("SIZE 65535", 0, Bytes.row(90, 0, 255, 255, 251, 255, 7));
        WIRES.bad("no SIZE", 0, Bytes.row(90, 0));
        WIRES.bad("half of SIZE", 0, Bytes.row(90, 0, 0));
    }

    private static void blocksOfAFrame() {
        CHECKS.words("its SIZE, two bytes, the lower first; BLOCKS;");
        WIRES.bad("no block", 0, Bytes.frame(0));
        WIRES.good("one block", Bytes.frame(1, Bytes.block(0, true, 1, 7)), Bytes.row(7));
        WIRES.good("four blocks", Bytes.frame(6, Bytes.block(0, false, 2, 1, 2), Bytes.block(1, false, 3, 9),
            Bytes.block(0, false, 0), Bytes.block(0, true, 1, 4)), Bytes.row(1, 2, 9, 9, 9, 4));
        int[] empty = Bytes.join(emptyBlocks(117));
        WIRES.good("118 blocks of nothing", Bytes.frame(0, empty, Bytes.block(0, true, 0)), NOTHING);
        WIRES.bad("118 blocks and none the last", 0, Bytes.frame(0, empty, Bytes.block(0, false, 0)));
    }

    private static int[][] emptyBlocks(int n) {
        int[][] blocks = new int[n][];
        Arrays.fill(blocks, Bytes.block(0, false, 0));
        return blocks;
    }

    // One byte 0: h is 16777619, 0x01000193, and so the MARK is 0x0093.
    private static int[] checkedZero(int... check) {
        return Bytes.join(Bytes.row(90, 1, 1, 0, 9, 0, 0), check);
    }

    // The bytes 2, 3: h is 3 * 16777619, and so the MARK is 0x07B9.
    private static int[] checkedTwoThree(int... check) {
        return Bytes.join(Bytes.row(90, 1, 2, 0, 17, 0, 2, 3), check);
    }

    private static void checkBytes() {
        CHECKS.words("the CHECK, if so, two bytes, the lower first.");
        WIRES.good("a CHECK", checkedTwoThree(0xB9, 0x07), Bytes.row(2, 3));
        WIRES.bad("the upper first", 0, checkedTwoThree(0x07, 0xB9));
        WIRES.bad("half a CHECK", 0, checkedTwoThree(0xB9));
        WIRES.bad("no CHECK", 0, checkedTwoThree());
        WIRES.bad("half a CHECK of 0", 0, Bytes.row(90, 1, 0, 0, 1, 0, 0));
        WIRES.bad("a byte behind the CHECK", 10, checkedTwoThree(0xB9, 0x07, 0));
    }

    private static void sizeInTheEnd() {
        CHECKS.words("The OUT of a frame, which its blocks make, must have SIZE bytes in the end");
        for (int n : new int[] {0, 1, 2, 119}) {
            WIRES.good(n + " for SIZE " + n, Bytes.frame(n, Bytes.block(1, true, n, 5)), Bytes.times(5, n));
            WIRES.bad(n + " for one more", 0, Bytes.frame(n + 1, Bytes.block(1, true, n, 5)));
            WIRES.bad(n + 1 + " for one less", 0, Bytes.frame(n, Bytes.block(1, true, n + 1, 5)));
        }
        WIRES.bad("one too few from two blocks", 0,
            Bytes.frame(5, Bytes.block(1, false, 2, 5), Bytes.block(1, true, 2, 5)));
        WIRES.bad("SIZE reached, but no last block", 0, Bytes.frame(2, Bytes.block(1, false, 2, 5)));
    }

    private static void checkIsTheMark() {
        CHECKS.words("must have SIZE bytes in the end and the CHECK as its MARK;");
        WIRES.good("of nothing", Bytes.row(90, 1, 0, 0, 1, 0, 0, 0), NOTHING);
        WIRES.good("of 0", checkedZero(0x93, 0), Bytes.row(0));
        for (int bit = 0; bit < 16; bit++) {
            int turned = 0x07B9 ^ 1 << bit;
            WIRES.bad("bit " + bit + " turned", 0, checkedTwoThree(turned & 255, turned >> 8));
            WIRES.bad("bit " + bit + " turned of nothing", 0,
                Bytes.row(90, 1, 0, 0, 1, 0, (1 << bit) & 255, 1 << bit >> 8));
        }
        // The MARK is that of the frame's own OUT, whatever stands ahead of it.
        WIRES.good("behind other frames", Bytes.join(Wires.run(8, 3), checkedZero(0x93, 0), checkedZero(0x93, 0)),
            Bytes.row(8, 8, 8, 0, 0));
        WIRES.bad("a MARK of all OUTs", 9, Bytes.join(checkedZero(0x93, 0),
            Bytes.row(90, 1, 1, 0, 9, 0, 0), markOf(0, 0)));
    }

    private static int[] markOf(int... content) {
        PackFrames x = new PackFrames();
        Bytes.writeAll(x, content);
        return Bytes.row(x.mark() & 255, x.mark() >> 8);
    }

    private static void headOfABlock() {
        CHECKS.words("A BLOCK begins with two bytes x, y;");
        WIRES.bad("x alone", 0, Bytes.frame(0, Bytes.row(1)));
        WIRES.bad("x alone of a second block", 0, Bytes.frame(0, Bytes.row(0, 0, 1)));
        WIRES.good("x and y", Bytes.frame(0, Bytes.row(1, 0)), NOTHING);
    }

    private static void lengthOfABlock() {
        CHECKS.words("its TYPE is x >> 1 & 3, its LENGTH (x >> 3) + 32 * y.");
        for (int n : new int[] {0, 1, 30, 31, 32, 33, 63, 64, 95, 96, 120}) {
            int[] row = new int[n];
            Arrays.setAll(row, i -> 2 * i);
            WIRES.good("raw " + n, Bytes.frame(n, Bytes.block(0, true, n, row)), row);
            WIRES.good("run " + n, Wires.run(255, n), Bytes.times(255, n));
        }
        WIRES.bad("the longest run", 0, Bytes.frame(120, Bytes.block(1, true, 8191, 1)));
        // 8192 and 256 do not come round to 0.
        WIRES.bad("a run of 256", 0, Bytes.frame(0, Bytes.block(1, true, 256, 1)));
        WIRES.bad("a raw block of 256", 0, Bytes.frame(0, Bytes.block(0, true, 256)));
        WIRES.bad("a PACK of 258", 0, Bytes.frame(0, Bytes.block(2, true, 258, 0, 0)));
    }

    private static void lastBlock() {
        CHECKS.words("If x is odd, it is the frame's last one.");
        int[] frame = Bytes.frame(1, Bytes.block(0, true, 1, 7));
        WIRES.bad("a block behind it", 7, Bytes.join(frame, Bytes.block(0, true, 0)));
        WIRES.bad("a frame of only an even x", 0, Bytes.frame(1, Bytes.block(0, false, 1, 7)));
        WIRES.good("the next frame behind it", Bytes.join(frame, frame), Bytes.row(7, 7));
        WIRES.bad("the next frame behind an even x", 0, Bytes.join(Bytes.frame(1, Bytes.block(0, false, 1, 7)), frame));
        for (int type = 0; type < 3; type++) {
            int[] body = type == 0 ? NOTHING : type == 1 ? Bytes.row(7) : Bytes.row(0, 0);
            int length = type == 2 ? 2 : 0;
            WIRES.good("last of TYPE " + type, Bytes.frame(0, Bytes.block(type, true, length, body)), NOTHING);
            WIRES.bad("not last of TYPE " + type, 0, Bytes.frame(0, Bytes.block(type, false, length, body)));
        }
    }

    private static void rawBlocks() {
        CHECKS.words("TYPE 0: LENGTH bytes follow, they are put OUT.");
        WIRES.good("none", Bytes.frame(0, Bytes.block(0, true, 0)), NOTHING);
        WIRES.good("three", Bytes.frame(3, Bytes.block(0, true, 3, 1, 255, 0)), Bytes.row(1, 255, 0));
        WIRES.bad("cut short", 0, Bytes.frame(3, Bytes.block(0, true, 3, 1, 2)));
        WIRES.bad("one and none there", 0, Bytes.frame(1, Bytes.block(0, true, 1)));
        WIRES.bad("one more", 9, Bytes.frame(3, Bytes.block(0, true, 3, 1, 2, 3, 4)));
    }

    private static void runs() {
        CHECKS.words("TYPE 1: one byte follows, it is put OUT LENGTH times.");
        WIRES.good("no times", Wires.run(7, 0), NOTHING);
        WIRES.good("once", Wires.run(0, 1), Bytes.row(0));
        WIRES.good("120 times", Wires.run(255, 120), Bytes.times(255, 120));
        WIRES.bad("no byte", 0, Bytes.frame(3, Bytes.block(1, true, 3)));
        WIRES.bad("no byte for no times", 0, Bytes.frame(0, Bytes.block(1, true, 0)));
        WIRES.bad("a second byte", 7, Bytes.frame(3, Bytes.block(1, true, 3, 1, 2)));
    }

    private static void packs() {
        CHECKS.words("TYPE 2: LENGTH bytes follow, a PACK.");
        WIRES.good("a PACK", Bytes.frame(1, Bytes.block(2, true, 3, 4, 5, 0)), Bytes.row(5));
        WIRES.bad("a PACK of no bytes", 0, Bytes.frame(0, Bytes.block(2, true, 0)));
        WIRES.bad("a PACK of no bytes ahead of good ones", 0,
            Bytes.frame(0, Bytes.block(2, false, 0), Bytes.row(0, 0), Bytes.block(0, true, 0)));
        WIRES.bad("a PACK longer than the wire", 0, Bytes.frame(1, Bytes.block(2, true, 4, 4, 5, 0)));
        WIRES.bad("the longest LENGTH", 0, Bytes.frame(1, Bytes.block(2, true, 8191, 4, 5, 0)));
        WIRES.bad("a PACK that needs what follows it", 0,
            Bytes.frame(1, Bytes.block(2, false, 2, 4, 5), Bytes.row(0), Bytes.block(0, true, 0)));
        // What is behind a PACK can be read again: its end is not the frame's.
        WIRES.good("two PACKS and a raw block", Bytes.frame(3, Bytes.block(2, false, 3, 4, 5, 0),
            Bytes.block(2, false, 3, 4, 6, 0), Bytes.block(0, true, 1, 7)), Bytes.row(5, 6, 7));
    }

    private static void type3() {
        CHECKS.words("TYPE 3 must not be.");
        WIRES.bad("the only block", 0, Bytes.frame(0, Bytes.block(3, true, 0)));
        WIRES.bad("with bytes", 0, Bytes.frame(1, Bytes.block(3, true, 1, 7)));
        WIRES.bad("ahead of a good one", 0, Bytes.frame(0, Bytes.block(3, false, 0), Bytes.block(0, true, 0)));
        WIRES.bad("behind a good one", 0, Bytes.frame(1, Bytes.block(0, false, 1, 7), Bytes.block(3, true, 0)));
        WIRES.bad("as good as a PACK", 0, Bytes.frame(1, Bytes.block(3, true, 3, 4, 5, 0)));
    }

    private static void notLongerThanSize() {
        CHECKS.words("No block may make OUT longer than SIZE.");
        int[] one = Bytes.row(1 << 2, 97);
        // One state each: L of code 1, B of code 0 (VALUE 1, one back), M of code 0: four bytes.
        int[] match = Bytes.join(one, Bytes.row(1, 0x54, 1, 0, 0), Bytes.stream(""));
        for (int size = 0; size < 5; size++) {
            if (size < 4) {
                WIRES.bad("raw 4 for " + size, 0, Bytes.frame(size, Bytes.block(0, true, 4, 1, 2, 3, 4)));
                WIRES.bad("a run of 4 for " + size, 0, Bytes.frame(size, Bytes.block(1, true, 4, 1)));
                WIRES.bad("4 literals for " + size, 0, Bytes.frame(size, Bytes.packBlock(true, Bytes.row(17, 5, 0))));
                WIRES.bad("a match for " + size, 0, Bytes.frame(size, Bytes.packBlock(true, match)));
            }
            WIRES.bad("a second block for " + size, 0,
                Bytes.frame(size, Bytes.block(1, false, size, 1), Bytes.block(1, true, 1, 1)));
            WIRES.bad("a literal left behind a match for " + (4 + size), 0, Bytes.frame(4 + size,
                Bytes.packBlock(true, Bytes.row((2 + size) << 2 | 1, 97, 1, 0x54, 1, 0, 0), Bytes.stream(""))));
        }
        WIRES.good("a match for 4", Bytes.frame(4, Bytes.packBlock(true, match)), Bytes.times(97, 4));
        WIRES.bad("the longest match", 0, Bytes.frame(120,
            Bytes.packBlock(true, one, Bytes.row(1, 0x54, 1, 0, 11), Bytes.stream("1111111"))));
        // 121 bytes for 120, which is as much as CONTENT can hold.
        int[] most = Bytes.times(3, 63);
        WIRES.bad("raw 121 for 120", 0, Bytes.frame(120, Bytes.block(0, true, 121, Bytes.times(3, 121))));
        WIRES.bad("a run of 121 for 120", 0, Bytes.frame(120, Bytes.block(1, true, 121, 3)));
        WIRES.bad("a raw block and a run of 121 for 120", 0,
            Bytes.frame(120, Bytes.block(0, false, 63, most), Bytes.block(1, true, 58, 3)));
        WIRES.bad("a run and a raw block of 121 for 120", 0,
            Bytes.frame(120, Bytes.block(1, false, 58, 3), Bytes.block(0, true, 63, most)));
        WIRES.bad("a run and literals of 121 for 120", 0,
            Bytes.frame(120, Bytes.block(1, false, 58, 3), Bytes.packBlock(true, Bytes.row(63 << 2 | 1, 3, 0))));
        WIRES.bad("a match of 120 behind 1 for 120", 0, Bytes.frame(120,
            Bytes.packBlock(true, one, Bytes.row(1, 0x54, 1, 0, 11), Bytes.stream(Wires.binary(95, 7)))));
        WIRES.good("a match of 119 behind 1 for 120", Bytes.frame(120,
            Bytes.packBlock(true, one, Bytes.row(1, 0x54, 1, 0, 11), Bytes.stream(Wires.binary(94, 7)))),
            Bytes.times(97, 120));
        WIRES.bad("literals left behind a match, 121 for 120", 0, Bytes.frame(120, Bytes.packBlock(true,
            Bytes.row(2 << 2 | 1, 97, 1, 0x54, 1, 0, 11), Bytes.stream(Wires.binary(94, 7)))));
        WIRES.bad("21 for 20 behind a frame of 100", 7, Bytes.join(Wires.run(1, 100),
            Bytes.frame(20, Bytes.block(0, true, 21, Bytes.times(3, 21)))));
        WIRES.bad("255 matches", 0, Bytes.frame(120,
            Bytes.packBlock(true, Bytes.row(63 << 2 | 1, 9, 255, 0x54, 0, 0, 0), Bytes.stream(""))));
    }

    private static void outsBehindOneAnother() {
        CHECKS.words("CONTENT becomes the OUTs of the wire's frames, one behind the other: how many bytes.");
        WIRES.good("none", NOTHING, NOTHING);
        WIRES.good("of SKIPS alone", Bytes.row(83, 1, 90), NOTHING);
        WIRES.good("of an empty frame", Wires.run(1, 0), NOTHING);
        WIRES.good("of four frames", Bytes.join(Wires.run(1, 2), Wires.run(2, 0), Wires.run(3, 1), Wires.run(4, 3)),
            Bytes.row(1, 1, 3, 4, 4, 4));
        int[][] ones = new int[34][];
        Arrays.fill(ones, Wires.run(6, 3));
        WIRES.good("of as many as the wire holds", Bytes.join(ones), Bytes.times(6, 102));
        PackFrames x = new PackFrames();
        Bytes.putAll(x, Wires.run(5, 2));
        for (int i = 0; i < 3; i++) {
            CHECKS.due("unpack() again", x.unpack(), 2);
            CHECKS.due("CONTENT", Bytes.contentOf(x), "[5, 5]");
        }
        Bytes.writeAll(x, Bytes.times(1, 118));
        CHECKS.due("unpack() onto a full CONTENT", x.unpack(), 2);
        CHECKS.due("CONTENT", Bytes.contentOf(x), "[5, 5]");
    }

    private static void refusedChangesNothing() {
        CHECKS.words("Otherwise, changing nothing:");
        PackFrames x = new PackFrames();
        Bytes.putAll(x, Bytes.join(Wires.run(5, 100), Wires.run(6, 20)));
        CHECKS.due("unpack()", x.unpack(), 120);
        String full = Bytes.contentOf(x);
        Bytes.putAll(x, Bytes.row(90));
        String wire = Bytes.wireOf(x);
        for (int i = 0; i < 3; i++) {
            CHECKS.due("unpack() refused", x.unpack(), -15);
            CHECKS.due("CONTENT", Bytes.contentOf(x), full);
            CHECKS.due("wire", Bytes.wireOf(x), wire);
        }
        x.clear();
        CHECKS.due("unpack() refused with nothing held", x.unpack(), -15);
        CHECKS.due("CONTENT", Bytes.contentOf(x), "[]");
        // What a refused frame has come to lasts no longer than it: table, TREE and ways back.
        x.wipe();
        int[] kept = Bytes.packBlock(false, Wires.treed(1, Bytes.row(97, 1, 0x10), "1"),
            Bytes.row(1, 0x54, 1, 2, 0), Bytes.stream("00"));
        Bytes.putAll(x, Bytes.frame(4, kept));
        CHECKS.due("unpack() of half a frame", x.unpack(), -1);
        x.wipe();
        Bytes.putAll(x, Bytes.frame(1, Bytes.packBlock(true, Bytes.row(1 << 2 | 3, 1, 2, 0))));
        CHECKS.due("unpack() with the TREE of a refused frame", x.unpack(), -1);
        x.wipe();
        Bytes.putAll(x, Bytes.frame(4, Bytes.packBlock(true, Bytes.row(1 << 2, 7, 1, 0xFC), Bytes.stream("00"))));
        CHECKS.due("unpack() with the tables of a refused frame", x.unpack(), -1);
    }

    private static void firstRefused() {
        CHECKS.words("-1 less the place of the first byte of the first FRAME or SKIP that is not as it must be,");
        int[] broken = Bytes.frame(2, Bytes.block(1, true, 1, 5));
        WIRES.bad("the first", 0, Bytes.join(broken, Wires.run(5, 2)));
        WIRES.bad("the second", 7, Bytes.join(Wires.run(5, 2), broken));
        WIRES.bad("behind a SKIP", 4, Bytes.join(Bytes.row(83, 2, 1, 1), broken));
        WIRES.bad("the first of two", 7, Bytes.join(Wires.run(5, 2), broken, Bytes.row(0), broken));
        WIRES.bad("a SKIP behind two frames", 14, Bytes.join(Wires.run(5, 2), Wires.run(5, 2), Bytes.row(83, 1)));
        // The place is that of the frame, not of the block in it that is wrong.
        WIRES.bad("the third block of a frame", 7, Bytes.join(Wires.run(5, 2), Bytes.frame(2,
            Bytes.block(0, false, 1, 1), Bytes.block(0, false, 1, 1), Bytes.block(3, true, 0))));
    }

    private static void atMost120() {
        CHECKS.words("or with whose OUT there would be more than 120 bytes.");
        WIRES.good("120", Wires.run(1, 120), Bytes.times(1, 120));
        WIRES.bad("121", 0, Wires.run(1, 121));
        WIRES.good("100 and 20", Bytes.join(Wires.run(1, 100), Wires.run(1, 20)), Bytes.times(1, 120));
        WIRES.bad("100 and 21", 7, Bytes.join(Wires.run(1, 100), Wires.run(1, 21)));
        WIRES.bad("60, 60 and 1", 14, Bytes.join(Wires.run(1, 60), Wires.run(1, 60), Wires.run(1, 1)));
        WIRES.good("120 and 0", Bytes.join(Wires.run(1, 120), Wires.run(1, 0)), Bytes.times(1, 120));
        WIRES.bad("121 ahead of a broken one", 7, Bytes.join(Wires.run(1, 120), Wires.run(1, 1), Bytes.row(90)));
        WIRES.bad("a broken one ahead of 121", 7, Bytes.join(Wires.run(1, 120), Bytes.row(83, 255), Wires.run(1, 1)));
        WIRES.bad("121 behind a SKIP", 10, Bytes.join(Wires.run(1, 120), Bytes.row(83, 1, 1), Wires.run(1, 1)));
        WIRES.bad("200 raw", 0, Bytes.frame(200, Bytes.block(0, true, 200, Bytes.times(3, 200))));
    }

    private static void everyPrefixIsRefused() {
        CHECKS.words("an unpacker that refuses whatever is not exactly as it must be.");
        int[] text = Bytes.text("the cat and the hat and the bat and the rat ate the cheese");
        PackFrames x = new PackFrames();
        Bytes.writeAll(x, text);
        int length = x.pack(true);
        int[] wire = new int[length];
        Arrays.setAll(wire, x::wire);
        WIRES.good("the whole", wire, text);
        for (int n = 1; n < length; n++) {
            int[] part = Arrays.copyOf(wire, n);
            WIRES.bad("the first " + n, 0, part);
            // Bytes of an earlier wire stand behind the end, and are none.
            x.wipe();
            Bytes.putAll(x, wire);
            x.wipe();
            Bytes.putAll(x, part);
            CHECKS.due("the first " + n + " where the rest stood before", x.unpack(), -1);
        }
    }
}
