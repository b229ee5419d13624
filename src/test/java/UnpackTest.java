import java.util.Arrays;

/** Promise 11 by hand: what a wire must be, rule by rule, and what is refused. */
public final class UnpackTest {
    private static final Checks CHECKS = new Checks();
    // Tables of one state for L, B and M: what follows is their three codes.
    private static final int ALL_SINGLE = 0x54;

    public static void main(String[] args) {
        wiresOfSkipsAndFrames();
        refusedChangesNothing();
        rawBlocksAndRuns();
        sizesAndLimits();
        checks();
        everyPrefixIsRefused();
        plainAndRepeatedLiterals();
        trees();
        brokenTrees();
        streamsAreUsedUp();
        latestTree();
        sequenceHeads();
        tablesOfOneState();
        tablesOfCounts();
        latestTables();
        lengthsOfLiteralsAndMatches();
        waysBack();
        waysStayInTheFrame();
        CHECKS.end();
    }

    /** The wire is good and makes these bytes. */
    private static void good(String what, int[] wire, int[] out) {
        PackFrames x = new PackFrames();
        x.write(2, 0x0907);
        Bytes.putAll(x, wire);
        CHECKS.due(what, x.unpack(), out.length);
        CHECKS.due(what + ", CONTENT", Bytes.contentOf(x), Bytes.show(out));
        CHECKS.due(what + ", wire", Bytes.wireOf(x), Bytes.show(wire));
    }

    /** The wire is refused at this place. */
    private static void bad(String what, int place, int[] wire) {
        PackFrames x = new PackFrames();
        x.write(2, 0x0907);
        Bytes.putAll(x, wire);
        CHECKS.due(what, x.unpack(), -1 - place);
        CHECKS.due(what + ", CONTENT", Bytes.contentOf(x), "[9, 7]");
        CHECKS.due(what + ", wire", Bytes.wireOf(x), Bytes.show(wire));
    }

    /** One frame of one PACK, good or refused. */
    private static void goodPack(String what, int[] out, int[]... parts) {
        good(what, Bytes.frame(out.length, Bytes.packBlock(true, parts)), out);
    }

    private static void badPack(String what, int size, int[]... parts) {
        bad(what, 0, Bytes.frame(size, Bytes.packBlock(true, parts)));
    }

    private static int[] run(int b, int n) {
        return Bytes.frame(n, Bytes.block(1, true, n, b));
    }

    private static void wiresOfSkipsAndFrames() {
        int[] skip = Bytes.row(83, 2, 90, 255);
        good("an empty wire", Bytes.row(), Bytes.row());
        good("a SKIP", skip, Bytes.row());
        good("a SKIP of nothing", Bytes.row(83, 0), Bytes.row());
        good("a long SKIP", Bytes.join(Bytes.row(83, 238), Bytes.times(1, 238)), Bytes.row());
        good("frames and SKIPS", Bytes.join(run(5, 2), skip, run(6, 1), skip, run(7, 3)),
            Bytes.row(5, 5, 6, 7, 7, 7));
        bad("an unknown sign", 0, Bytes.row(84, 0));
        bad("an unknown sign behind a SKIP", 4, Bytes.join(skip, Bytes.row(0)));
        bad("a SKIP without n", 4, Bytes.join(skip, Bytes.row(83)));
        bad("a SKIP cut short", 4, Bytes.join(skip, Bytes.row(83, 3, 0, 0)));
        bad("a SKIP without n at the end of a full wire", 239,
            Bytes.join(Bytes.row(83, 237), Bytes.times(0, 237), Bytes.row(83)));
        bad("the first of two faults", 4, Bytes.join(skip, Bytes.row(1), Bytes.row(2)));
        bad("a frame cut short behind frames", 14, Bytes.join(run(5, 2), run(6, 2), Bytes.row(90, 0, 0)));
    }

    private static void refusedChangesNothing() {
        PackFrames x = new PackFrames();
        Bytes.putAll(x, Bytes.join(run(5, 100), run(6, 20)));
        CHECKS.due("unpack()", x.unpack(), 120);
        Bytes.putAll(x, Bytes.row(90));
        CHECKS.due("unpack()", x.unpack(), -15);
        CHECKS.due("content(-1)", x.content(-1), 120);
        CHECKS.due("content(99)", x.content(99), 5);
        CHECKS.due("content(119)", x.content(119), 6);
        x.wipe();
        CHECKS.due("unpack() of an empty wire", x.unpack(), 0);
        CHECKS.due("content(-1)", x.content(-1), 0);
    }

    private static void rawBlocksAndRuns() {
        good("raw", Bytes.frame(3, Bytes.block(0, true, 3, 1, 255, 0)), Bytes.row(1, 255, 0));
        good("nothing raw", Bytes.frame(0, Bytes.block(0, true, 0)), Bytes.row());
        good("a run of none", Bytes.frame(0, Bytes.block(1, true, 0, 7)), Bytes.row());
        good("blocks", Bytes.frame(6, Bytes.block(0, false, 2, 1, 2), Bytes.block(1, false, 3, 9),
            Bytes.block(0, false, 0), Bytes.block(0, true, 1, 4)), Bytes.row(1, 2, 9, 9, 9, 4));
        int[] hundred = new int[100];
        Arrays.setAll(hundred, i -> i * 2);
        good("a LENGTH of two bytes", Bytes.frame(100, Bytes.block(0, true, 100, hundred)), hundred);
        good("a run of 97", Bytes.frame(97, Bytes.block(1, true, 97, 3)), Bytes.times(3, 97));
        bad("TYPE 3", 0, Bytes.frame(0, Bytes.block(3, true, 0)));
        bad("TYPE 3 ahead of a good block", 0, Bytes.frame(0, Bytes.block(3, false, 0), Bytes.block(0, true, 0)));
        bad("no last block", 0, Bytes.frame(2, Bytes.block(0, false, 2, 1, 2)));
        bad("raw bytes cut short", 0, Bytes.frame(3, Bytes.block(0, true, 3, 1, 2)));
        bad("a run without its byte", 0, Bytes.frame(3, Bytes.block(1, true, 3)));
        bad("a run of none without its byte", 0, Bytes.frame(0, Bytes.block(1, true, 0)));
        bad("a second byte behind a run", 7, Bytes.frame(3, Bytes.block(1, true, 3, 1, 2)));
    }

    private static void sizesAndLimits() {
        bad("OUT too short", 0, Bytes.frame(4, Bytes.block(0, true, 3, 1, 2, 3)));
        bad("OUT too long", 0, Bytes.frame(2, Bytes.block(0, true, 3, 1, 2, 3)));
        bad("a run too long", 0, Bytes.frame(2, Bytes.block(1, true, 3, 1)));
        bad("the longest run", 0, Bytes.frame(120, Bytes.block(1, true, 8191, 1)));
        bad("OUT too long by the second block", 0,
            Bytes.frame(3, Bytes.block(1, false, 3, 1), Bytes.block(1, true, 1, 1)));
        bad("the upper byte of SIZE", 0, Bytes.frame(259, Bytes.block(0, true, 3, 1, 2, 3)));
        good("120 bytes", run(1, 120), Bytes.times(1, 120));
        bad("121 bytes", 0, run(1, 121));
        good("120 bytes in two", Bytes.join(run(1, 100), run(1, 20)), Bytes.times(1, 120));
        bad("121 bytes in two", 7, Bytes.join(run(1, 100), run(1, 21)));
        good("a frame of nothing behind 120", Bytes.join(run(1, 120), run(1, 0)), Bytes.times(1, 120));
    }

    private static void checks() {
        // h is 16777619 for one byte 0: its MARK is 0x0093.
        int[] checked = Bytes.row(90, 1, 1, 0, 9, 0, 0, 0x93, 0x00);
        good("a CHECK", checked, Bytes.row(0));
        good("a CHECK of nothing", Bytes.row(90, 1, 0, 0, 1, 0, 0, 0), Bytes.row());
        good("the CHECK is of its own frame", Bytes.join(run(8, 3), checked, checked),
            Bytes.row(8, 8, 8, 0, 0));
        bad("a CHECK with its bytes changed over", 0, Bytes.row(90, 1, 1, 0, 9, 0, 0, 0x00, 0x93));
        bad("a wrong lower byte", 0, Bytes.row(90, 1, 1, 0, 9, 0, 0, 0x92, 0x00));
        bad("a wrong upper byte", 0, Bytes.row(90, 1, 1, 0, 9, 0, 0, 0x93, 0x01));
        bad("a CHECK cut short", 0, Bytes.row(90, 1, 1, 0, 9, 0, 0, 0x93));
        bad("a CHECK of 0 cut short", 0, Bytes.row(90, 1, 0, 0, 1, 0, 0));
        bad("a CHECK that should not be", 7, Bytes.row(90, 0, 1, 0, 9, 0, 0, 0x93, 0x00));
        for (int sign : new int[] {2, 3, 128, 255}) {
            bad("sign of a CHECK " + sign, 0, Bytes.row(90, sign, 1, 0, 9, 0, 0, 0x93, 0x00));
        }
    }

    private static void everyPrefixIsRefused() {
        PackFrames x = new PackFrames();
        Bytes.writeAll(x, Bytes.text("the cat and the hat and the bat and the rat ate the cheese"));
        int length = x.pack(true);
        int[] wire = new int[length];
        Arrays.setAll(wire, x::wire);
        good("the whole", wire, Bytes.text("the cat and the hat and the bat and the rat ate the cheese"));
        for (int n = 1; n < length; n++) {
            bad("the first " + n, 0, Arrays.copyOf(wire, n));
            bad("the first " + n + " at the end of a full wire", 240 - n,
                Bytes.join(Bytes.row(83, 238 - n), Bytes.times(0, 238 - n), Arrays.copyOf(wire, n)));
        }
        good("the whole at the end of a full wire",
            Bytes.join(Bytes.row(83, 238 - length), Bytes.times(0, 238 - length), wire),
            Bytes.text("the cat and the hat and the bat and the rat ate the cheese"));
    }

    private static void plainAndRepeatedLiterals() {
        goodPack("plain literals", Bytes.row(5, 6), Bytes.row(2 << 2, 5, 6, 0));
        goodPack("no literals", Bytes.row(), Bytes.row(0, 0));
        goodPack("63 literals", Bytes.times(4, 63), Bytes.row(63 << 2), Bytes.times(4, 63), Bytes.row(0));
        goodPack("repeated literals", Bytes.times(9, 63), Bytes.row(63 << 2 | 1, 9, 0));
        goodPack("repeated none", Bytes.row(), Bytes.row(1, 9, 0));
        badPack("an empty PACK", 0);
        badPack("no SEQUENCES", 0, Bytes.row(0));
        badPack("literals cut short", 2, Bytes.row(2 << 2, 5));
        badPack("no SEQUENCES behind literals", 2, Bytes.row(2 << 2, 5, 6));
        badPack("more behind no sequences", 2, Bytes.row(2 << 2, 5, 6, 0, 0));
        badPack("too many literals", 1, Bytes.row(2 << 2, 5, 6, 0));
        badPack("repeated literals without a byte", 0, Bytes.row(1));
        bad("a PACK longer than the wire", 0, Bytes.frame(1, Bytes.block(2, true, 4, 4, 5, 0)));
        bad("a PACK that needs what follows it", 0,
            Bytes.frame(1, Bytes.block(2, false, 2, 4, 5), Bytes.row(0), Bytes.block(0, true, 0)));
    }

    /** LITERALS with a TREE and a STREAM. */
    private static int[] treed(int count, int[] tree, String bits) {
        int[] stream = Bytes.stream(bits);
        return Bytes.join(Bytes.row(count << 2 | 2), tree, Bytes.row(stream.length), stream);
    }

    private static void trees() {
        int[] none = Bytes.row(0);
        // Weights 1 and 1: two symbols of one bit.
        goodPack("two symbols", Bytes.row(97, 98, 98, 97), treed(4, Bytes.row(97, 1, 0x10), "0110"), none);
        goodPack("no symbol taken", Bytes.row(), treed(0, Bytes.row(97, 1, 0x10), ""), none);
        // Weights 2, 1 and so 1, DEPTH 2: cells 0 and 1 for 51 and 52, 2 and 3 for 50.
        goodPack("three symbols", Bytes.row(50, 51, 52, 50), treed(4, Bytes.row(50, 2, 0x21), "1 00 01 1"), none);
        // Weights 1, 0, 2 and so 1.
        goodPack("a symbol that is not there", Bytes.row(10, 13, 12),
            treed(3, Bytes.row(10, 3, 0x10, 0x20), "00 01 1"), none);
        // SUM 64 is a power of 2 already: DEPTH 7, and v is 7.
        goodPack("the deepest SUM", Bytes.row(254, 255), treed(2, Bytes.row(254, 1, 0x70), "0 1"), none);
        // Weights 7 6 5 4 3 2 1 and so 1: the last ones have seven bits.
        int[] deep = Bytes.row(0, 7, 0x76, 0x54, 0x32, 0x10);
        goodPack("DEPTH 7", Bytes.row(0, 1, 5, 6, 7),
            treed(5, deep, "1 01 000001 0000000 0000001"), none);
        int[] sixteen = Bytes.join(Bytes.row(239, 16), Bytes.times(0x11, 8));
        badPack("sixteen and one beyond 255", 1,
            treed(1, Bytes.join(Bytes.row(240, 16), Bytes.times(0x11, 8)), "1"), none);
        goodPack("sixteen and one", Bytes.row(239, 254, 255),
            treed(3, sixteen, "00000 01111 1"), none);
    }

    private static void brokenTrees() {
        int[] none = Bytes.row(0);
        badPack("n is 0", 0, treed(0, Bytes.row(97, 0), ""), none);
        badPack("n is 0 with weights", 0, treed(0, Bytes.row(97, 0, 0x10), ""), none);
        badPack("n is 17", 0, treed(0, Bytes.join(Bytes.row(9, 17), Bytes.times(0x11, 8), Bytes.row(0x10)), ""), none);
        badPack("FIRST + n is 256", 0, treed(0, Bytes.row(255, 1, 0x10), ""), none);
        badPack("a weight of 8", 0, treed(0, Bytes.row(97, 1, 0x80), ""), none);
        badPack("a lower weight of 8", 0, treed(0, Bytes.row(97, 2, 0x18), ""), none);
        badPack("a lower half left", 0, treed(0, Bytes.row(97, 1, 0x11), ""), none);
        badPack("SUM 0", 0, treed(0, Bytes.row(97, 1, 0x00), ""), none);
        badPack("SUM 128", 0, treed(0, Bytes.row(97, 2, 0x77), ""), none);
        // SUM 5 leaves 3, which is no power of 2.
        badPack("a rest of 3", 0, treed(0, Bytes.row(97, 2, 0x31), ""), none);
        goodPack("a rest of 2", Bytes.row(), treed(0, Bytes.row(97, 3, 0x31, 0x10), ""), none);
        badPack("a TREE cut short", 0, Bytes.row(2, 97, 3, 0x11));
        badPack("a TREE without n", 0, Bytes.row(2, 97));
        badPack("a TREE without s", 0, Bytes.row(2, 97, 1, 0x10));
    }

    private static void streamsAreUsedUp() {
        int[] tree = Bytes.row(4 << 2 | 2, 97, 1, 0x10);
        int[] none = Bytes.row(0);
        goodPack("four bits", Bytes.row(97, 98, 98, 97), tree, Bytes.row(1, 0x16), none);
        badPack("s is 0", 4, tree, Bytes.row(0), none);
        badPack("five bits", 4, tree, Bytes.row(1, 0x26), none);
        badPack("three bits", 4, tree, Bytes.row(1, 0x0E), none);
        badPack("three bits, 0 behind them", 4, tree, Bytes.row(1, 0x08), none);
        badPack("a last byte 0", 4, tree, Bytes.row(2, 0x16, 0), none);
        badPack("only a byte 0", 4, tree, Bytes.row(1, 0), none);
        badPack("s beyond the PACK", 4, tree, Bytes.row(3, 0x16), none);
        int[] beyond = Bytes.frame(4, Bytes.packBlock(true, tree, Bytes.row(2, 0x16)));
        bad("s beyond a full wire", 240 - beyond.length, Bytes.join(
            Bytes.row(83, 238 - beyond.length), Bytes.times(0, 238 - beyond.length), beyond));
        goodPack("eight bits", Bytes.row(97, 98, 98, 98, 97, 97, 98, 97),
            Bytes.row(8 << 2 | 2, 97, 1, 0x10, 2, 0x72, 1, 0));
        // The last symbol is found with a 0 behind the last bit.
        goodPack("0s behind the last bit", Bytes.row(51, 50), treed(2, Bytes.row(50, 2, 0x21), "00 1"), none);
        badPack("half a symbol", 2, treed(2, Bytes.row(50, 2, 0x21), "1 0"), none);
        badPack("a bit but no symbol", 0, treed(0, Bytes.row(50, 2, 0x21), "1"), none);
    }

    private static void latestTree() {
        int[] withTree = Bytes.packBlock(false, treed(1, Bytes.row(97, 1, 0x10), "1"), Bytes.row(0));
        int[] other = Bytes.packBlock(false, treed(1, Bytes.row(65, 1, 0x10), "1"), Bytes.row(0));
        int[] again = Bytes.packBlock(true, Bytes.row(2 << 2 | 3, 1, 0x05, 0));
        int[] plain = Bytes.packBlock(false, Bytes.row(1 << 2, 5, 0));
        good("a TREE again", Bytes.frame(3, withTree, again), Bytes.row(98, 97, 98));
        good("a TREE again, later", Bytes.frame(5, withTree, plain, Bytes.block(0, false, 1, 7), again),
            Bytes.row(98, 5, 7, 97, 98));
        good("the latest TREE", Bytes.frame(4, withTree, other, again), Bytes.row(98, 66, 65, 66));
        bad("no TREE yet", 0, Bytes.frame(2, again));
        int[] frame = Bytes.frame(3, withTree, again);
        bad("a TREE of another frame", frame.length, Bytes.join(frame, Bytes.frame(2, again)));
        goodPack("a TREE with sequences", Bytes.row(97, 98, 98, 98, 98), treed(2, Bytes.row(97, 1, 0x10), "01"),
            Bytes.row(1, ALL_SINGLE, 2, 0, 0), Bytes.stream(""));
    }

    private static void sequenceHeads() {
        int[] one = Bytes.row(1 << 2, 97);
        goodPack("a match", Bytes.times(97, 4), one, Bytes.row(1, ALL_SINGLE, 1, 0, 0), Bytes.stream(""));
        for (int m = 1; m < 4; m++) {
            badPack("m & 3 is " + m, 4, one, Bytes.row(1, ALL_SINGLE | m, 1, 0, 0), Bytes.stream(""));
        }
        badPack("no m", 1, one, Bytes.row(1));
        badPack("no codes", 1, one, Bytes.row(1, ALL_SINGLE));
        badPack("no STREAM", 4, one, Bytes.row(1, ALL_SINGLE, 1, 0, 0));
        badPack("a bit too many", 4, one, Bytes.row(1, ALL_SINGLE, 1, 0, 0), Bytes.stream("0"));
        badPack("a byte 0 behind the STREAM", 4, one, Bytes.row(1, ALL_SINGLE, 1, 0, 0, 1, 0));
        badPack("two sequences without literals", 7, one, Bytes.row(2, ALL_SINGLE, 1, 0, 0), Bytes.stream(""));
        goodPack("two sequences", Bytes.row(97, 97, 97, 97, 98, 98, 98, 98, 99), Bytes.row(3 << 2, 97, 98, 99),
            Bytes.row(2, ALL_SINGLE, 1, 0, 0), Bytes.stream(""));
        badPack("255 sequences", 120, Bytes.row(63 << 2 | 1, 9), Bytes.row(255, ALL_SINGLE, 0, 0, 0), Bytes.stream(""));
        badPack("a match beyond SIZE", 3, one, Bytes.row(1, ALL_SINGLE, 1, 0, 0), Bytes.stream(""));
        badPack("a match short of SIZE", 5, one, Bytes.row(1, ALL_SINGLE, 1, 0, 0), Bytes.stream(""));
    }

    private static void tablesOfOneState() {
        int[] one = Bytes.row(1 << 2, 97);
        badPack("L of code 12", 4, one, Bytes.row(1, ALL_SINGLE, 12, 0, 0), Bytes.stream(""));
        badPack("B of code 8", 4, one, Bytes.row(1, ALL_SINGLE, 1, 8, 0), Bytes.stream("00000000"));
        badPack("M of code 12", 4, one, Bytes.row(1, ALL_SINGLE, 1, 0, 12), Bytes.stream(""));
        badPack("M of code 255", 4, one, Bytes.row(1, ALL_SINGLE, 1, 0, 255), Bytes.stream(""));
        // VALUE 4 is a way back of 1.
        goodPack("B of code 2", Bytes.times(97, 4), one, Bytes.row(1, ALL_SINGLE, 1, 2, 0), Bytes.stream("00"));
        // L usual, B and M of one state: only L has a state ahead; state 4 has code 1.
        goodPack("L usual", Bytes.times(97, 4), one, Bytes.row(1, 0x14, 0, 0), Bytes.stream("0100"));
        // B usual: state 4 is of code 2, VALUE 4; the codes stand in the order L, B, M.
        goodPack("B usual", Bytes.times(97, 4), one, Bytes.row(1, 0x44, 1, 0), Bytes.stream("0100 00"));
        // M usual: state 1 is of code 2, five bytes.
        goodPack("M usual", Bytes.times(97, 6), one, Bytes.row(1, 0x50, 1, 0), Bytes.stream("0001"));
        // All usual: L state 4 (code 1), B state 0 (code 0, VALUE 1), M state 10 (code 0).
        goodPack("all usual", Bytes.times(97, 4), one, Bytes.row(1, 0), Bytes.stream("0100 0000 1010"));
        // Then L by 3 bits and BASE 0, M by 2 bits and BASE 0, B by 3 bits and BASE 0:
        // L state 4 (code 1), M state 1 (code 2), B state 1 (code 2, VALUE 7, a way back of 4).
        goodPack("all usual, twice", Bytes.row(97, 97, 97, 97, 98, 97, 97, 97, 98, 97), Bytes.row(2 << 2, 97, 98),
            Bytes.row(2, 0), Bytes.stream("0100 0000 1010 100 01 001 11"));
    }

    private static void tablesOfCounts() {
        int[] one = Bytes.row(1 << 2, 97);
        // L with counts 8 and 8: the places 0 13 10 7 4 1 14 11 are of code 0, the others of 1.
        goodPack("counts for L", Bytes.times(97, 4), one, Bytes.row(1, 0x94, 2, 0x88, 0, 0), Bytes.stream("0010"));
        badPack("counts for L, state of code 0", 4, one, Bytes.row(1, 0x94, 2, 0x88, 0, 0), Bytes.stream("0001"));
        // B: code 0 is at place 0 alone, all else is of code 1 (15): VALUE 2 is R2.
        goodPack("counts for B", Bytes.row(1, 2, 3, 4, 1, 2, 3), Bytes.row(4 << 2, 1, 2, 3, 4),
            Bytes.row(1, 0x64, 4, 2, 0x1F, 0), Bytes.stream("0011 0"));
        // M with 1 for code 1, 1 for 3, 2 for 5, 2 for 7, 4 for 9 and 6 for 11: the places
        // 0 | 13 | 10 7 | 4 1 | 14 11 8 5 | 2 15 12 9 6 3; state 5 is of code 9, 13 and 2 bits.
        goodPack("counts for M", Bytes.times(97, 15), one,
            Bytes.row(1, 0x58, 1, 0, 12, 0x01, 0x01, 0x02, 0x02, 0x04, 0x06), Bytes.stream("0101 01"));
        badPack("n is 0", 4, one, Bytes.row(1, 0x94, 0, 0, 0), Bytes.stream("0010"));
        badPack("n is 13", 4, one, Bytes.row(1, 0x94, 13, 0x88, 0, 0, 0, 0, 0, 0, 0, 0), Bytes.stream("0010"));
        badPack("n is 9 for B", 4, one, Bytes.row(1, 0x64, 1, 9, 0x88, 0, 0, 0, 0, 0), Bytes.stream("0000"));
        goodPack("n is 8 for B", Bytes.times(97, 4), one,
            Bytes.row(1, 0x64, 1, 8, 0x88, 0, 0, 0, 0), Bytes.stream("0000"));
        badPack("17 in all", 4, one, Bytes.row(1, 0x94, 2, 0x89, 0, 0), Bytes.stream("0010"));
        badPack("15 in all", 4, one, Bytes.row(1, 0x94, 2, 0x78, 0, 0), Bytes.stream("0010"));
        badPack("a lower half left", 4, one, Bytes.row(1, 0x94, 3, 0x88, 0x01, 0, 0), Bytes.stream("0010"));
        goodPack("a count of 0 at the end", Bytes.times(97, 4), one,
            Bytes.row(1, 0x94, 3, 0x88, 0x00, 0, 0), Bytes.stream("0010"));
        badPack("counts cut short", 4, one, Bytes.row(1, 0x94, 12, 0x88));
        // L 15 for code 0 and 1 for code 1, whose only state is 3: WIDTH 4 and BASE 0 from there;
        // state 2 is of code 0, x = 16, WIDTH 0 and BASE 0; state 0 has x = 15, WIDTH 1 and BASE 14.
        goodPack("states without bits", Bytes.times(97, 13), one,
            Bytes.row(4, 0x94, 2, 0xF1, 0, 0), Bytes.stream("0011 0001 1"));
    }

    private static void latestTables() {
        int[] usual = Bytes.packBlock(false, Bytes.row(1 << 2, 97, 1, 0), Bytes.stream("0100 0000 1010"));
        int[] single = Bytes.packBlock(false, Bytes.row(1 << 2, 97, 1, ALL_SINGLE, 1, 0, 0), Bytes.stream(""));
        int[] noSequence = Bytes.packBlock(false, Bytes.row(1 << 2, 98, 0));
        int[] againUsual = Bytes.packBlock(true, Bytes.row(1 << 2, 97, 1, 0xFC), Bytes.stream("0100 0000 1010"));
        int[] againSingle = Bytes.packBlock(true, Bytes.row(1 << 2, 97, 1, 0xFC), Bytes.stream(""));
        int[] againSingleOn = Bytes.packBlock(false, Bytes.row(1 << 2, 97, 1, 0xFC), Bytes.stream(""));
        good("USUAL tables again", Bytes.frame(8, usual, againUsual), Bytes.times(97, 8));
        good("single tables again", Bytes.frame(8, single, againSingle), Bytes.times(97, 8));
        good("again and again", Bytes.frame(12, single, againSingleOn, againSingle), Bytes.times(97, 12));
        good("no sequences between", Bytes.frame(9, single, noSequence, againSingle),
            Bytes.row(97, 97, 97, 97, 98, 97, 97, 97, 97));
        bad("not the latest", 0, Bytes.frame(12, single, usual, againSingle));
        good("the latest", Bytes.frame(12, single, usual, againUsual), Bytes.times(97, 12));
        bad("none yet", 0, Bytes.frame(4, againSingle));
        bad("none yet behind no sequences", 0, Bytes.frame(5, noSequence, againSingle));
        int[] frame = Bytes.frame(8, single, againSingle);
        bad("a table of another frame", frame.length, Bytes.join(frame, Bytes.frame(4, againSingle)));
        for (int m : new int[] {0xD4, 0x74, 0x5C}) {
            bad("none yet for m " + m, 0, Bytes.frame(4,
                Bytes.packBlock(true, Bytes.row(1 << 2, 97, 1, m, m == 0xD4 ? 0 : 1, 0), Bytes.stream(""))));
            good("again for m " + m, Bytes.frame(8, single,
                Bytes.packBlock(true, Bytes.row(1 << 2, 97, 1, m, m == 0xD4 ? 0 : 1, 0), Bytes.stream(""))),
                Bytes.times(97, 8));
        }
        int[] counts = Bytes.packBlock(false, Bytes.row(1 << 2, 97, 1, 0x94, 2, 0x88, 0, 0), Bytes.stream("0010"));
        int[] againCounts = Bytes.packBlock(true, Bytes.row(1 << 2, 97, 1, 0xD4, 0, 0), Bytes.stream("0010"));
        good("counts again", Bytes.frame(8, counts, againCounts), Bytes.times(97, 8));
    }

    private static void lengthsOfLiteralsAndMatches() {
        int[] least = {3, 4, 5, 6, 7, 8, 9, 10, 11, 13, 17, 25};
        int[] bits = {0, 0, 0, 0, 0, 0, 0, 0, 1, 2, 3, 7};
        for (int c = 0; c < 12; c++) {
            matchOf(c, least[c], bits[c], 0);
            int most = c == 11 ? 119 - 25 : (1 << bits[c]) - 1;
            matchOf(c, least[c], bits[c], most);
        }
        int[] leastLiterals = {0, 1, 2, 3, 4, 5, 6, 7, 8, 10, 12, 16};
        int[] literalBits = {0, 0, 0, 0, 0, 0, 0, 0, 1, 1, 2, 6};
        for (int c = 1; c < 12; c++) {
            literalsOf(c, leastLiterals[c], literalBits[c], 0);
            literalsOf(c, leastLiterals[c], literalBits[c], c == 11 ? 63 - 16 : (1 << literalBits[c]) - 1);
        }
        badPack("more literals than there are", 67, Bytes.row(63 << 2 | 1, 9, 1, ALL_SINGLE, 11, 0, 0),
            Bytes.stream("110000"));
        // The bits stand in the order B, M, L.
        goodPack("bits of B, M and L", Bytes.join(Bytes.row(1, 2, 3, 4, 5, 6, 7, 8, 9), Bytes.row(7, 8, 9, 7, 8, 9, 7),
            Bytes.row(8, 9, 7, 8, 9)), Bytes.row(9 << 2, 1, 2, 3, 4, 5, 6, 7, 8, 9, 1, ALL_SINGLE, 8, 2, 8),
            Bytes.stream("10 1 1"));
    }

    private static String binary(int number, int bits) {
        StringBuilder text = new StringBuilder();
        for (int i = bits - 1; i >= 0; i--) {
            text.append(number >> i & 1);
        }
        return text.toString();
    }

    private static void matchOf(int code, int least, int bits, int more) {
        goodPack("M of code " + code + " and " + more, Bytes.times(97, 1 + least + more),
            Bytes.row(1 << 2, 97, 1, ALL_SINGLE, 1, 0, code), Bytes.stream(binary(more, bits)));
    }

    private static void literalsOf(int code, int least, int bits, int more) {
        int n = least + more;
        goodPack("L of code " + code + " and " + more, Bytes.times(97, n + 3),
            Bytes.row(n << 2 | 1, 97, 1, ALL_SINGLE, code, 0, 0), Bytes.stream(binary(more, bits)));
        if (n > 0) {
            badPack("L of code " + code + " and one literal less", n + 3,
                Bytes.row((n - 1) << 2 | 1, 97, 1, ALL_SINGLE, code, 0, 0), Bytes.stream(binary(more, bits)));
        }
    }

    private static final int[] NINE = {1, 2, 3, 4, 5, 6, 7, 8, 9};

    /** Nine raw bytes and then matches of 3, each with its VALUE of 4 .. 7 by two bits, L being 0. */
    private static int[] nineAnd(int wayCode, int sequences, String bits) {
        return Bytes.join(Bytes.block(0, false, 9, NINE),
            Bytes.packBlock(true, Bytes.row(0, sequences, ALL_SINGLE, 0, wayCode, 0), Bytes.stream(bits)));
    }

    /** The same with one literal 0 ahead of each match. */
    private static int[] nineAndLiterals(int wayCode, int sequences, String bits) {
        return Bytes.join(Bytes.block(0, false, 9, NINE),
            Bytes.packBlock(true, Bytes.row(sequences << 2 | 1, 0, sequences, ALL_SINGLE, 1, wayCode, 0),
                Bytes.stream(bits)));
    }

    private static void ways(String what, int[] blocks, int... matched) {
        good(what, Bytes.frame(9 + matched.length, blocks), Bytes.join(NINE, matched));
    }

    private static void waysBack() {
        // With a literal: 1, 2, 3 are R1, R2, R3, at first 1, 4, 8.
        ways("VALUE 1", nineAndLiterals(0, 1, ""), 0, 0, 0, 0);
        ways("VALUE 2", nineAndLiterals(1, 1, "0"), 0, 7, 8, 9);
        ways("VALUE 3", nineAndLiterals(1, 1, "1"), 0, 3, 4, 5);
        ways("VALUE 7", nineAndLiterals(2, 1, "11"), 0, 7, 8, 9);
        // Without: 1, 2, 3 are R2, R3, R1 - 1.
        ways("VALUE 1, no literal", nineAnd(0, 1, ""), 6, 7, 8);
        ways("VALUE 2, no literal", nineAnd(1, 1, "0"), 2, 3, 4);
        bad("VALUE 3, no literal, R1 being 1", 0, Bytes.frame(12, nineAnd(1, 1, "1")));
        // VALUE 2 puts 8 first (8 1 4); VALUE 3 is then 8 - 1 (7 8 1).
        ways("VALUE 2 and 3, no literal", nineAnd(1, 2, "0 1"), 2, 3, 4, 6, 7, 8);
        // VALUE 1 changes R1 and R2 over each time: 4, 1, 4.
        ways("VALUE 1 three times, no literal", nineAnd(0, 3, ""), 6, 7, 8, 8, 8, 8, 8, 8, 8);
        // VALUE 7 (4 1 4), VALUE 4 (1 4 1), VALUE 6 (3 1 4).
        ways("VALUES above 3", nineAnd(2, 3, "11 00 10"), 6, 7, 8, 8, 8, 8, 8, 8, 8);
        // VALUE 2 with a literal is a change of R1 and R2 alone, so that R3 stays 8.
        ways("VALUE 2 and 3", nineAndLiterals(1, 2, "0 1"), 0, 7, 8, 9, 0, 7, 8, 9);
        // VALUE 3 makes it 8 1 4, VALUE 3 again 4 8 1, VALUE 3 again 1 4 8.
        ways("VALUE 3 three times", nineAndLiterals(1, 3, "1 1 1"), 0, 3, 4, 5, 0, 3, 4, 5, 0, 0, 0, 0);
        // VALUE 3 makes it 8 1 4, then VALUE 2 is 1.
        ways("VALUE 3 and 2", nineAndLiterals(1, 2, "1 0"), 0, 3, 4, 5, 0, 0, 0, 0);
        // R1 - 1 may come to 0 later too: R1 is 2 by VALUE 5, then 1, then it would be 0.
        int[] two = Bytes.packBlock(false, Bytes.row(0, 1, ALL_SINGLE, 0, 2, 0), Bytes.stream("01"));
        int[] less = Bytes.packBlock(true, Bytes.row(0, 1, ALL_SINGLE, 0, 1, 0), Bytes.stream("1"));
        int[] twice = Bytes.packBlock(true, Bytes.row(0, 2, ALL_SINGLE, 0, 1, 0), Bytes.stream("11"));
        int[] nine = Bytes.block(0, false, 9, NINE);
        ways("ways last from block to block", Bytes.join(nine, two, less), 8, 9, 8, 8, 8, 8);
        bad("R1 - 1 down to 0", 0, Bytes.frame(18, nine, two, twice));
    }

    private static void waysStayInTheFrame() {
        // A way back of 1 .. 4 by VALUES 4 .. 7 behind one literal.
        goodPack("a way back of all", Bytes.row(5, 5, 5, 5), Bytes.row(1 << 2, 5, 1, ALL_SINGLE, 1, 2, 0),
            Bytes.stream("00"));
        badPack("a way back of more", 4, Bytes.row(1 << 2, 5, 1, ALL_SINGLE, 1, 2, 0), Bytes.stream("01"));
        badPack("R2 back", 4, Bytes.row(1 << 2, 5, 1, ALL_SINGLE, 1, 1, 0), Bytes.stream("0"));
        badPack("back from nothing", 3, Bytes.row(0, 1, ALL_SINGLE, 0, 2, 0), Bytes.stream("00"));
        int[] more = Bytes.frame(4,
            Bytes.packBlock(true, Bytes.row(1 << 2, 5, 1, ALL_SINGLE, 1, 2, 0), Bytes.stream("01")));
        bad("back into the frame before", 7, Bytes.join(run(1, 9), more));
        goodPack("a way back of 61", Bytes.join(Bytes.row(1), Bytes.times(2, 62), Bytes.row(2, 2, 2)),
            Bytes.row(63 << 2, 1), Bytes.times(2, 62), Bytes.row(1, ALL_SINGLE, 11, 6, 0),
            Bytes.stream("000000 101111"));
        // R1, R2, R3 begin again with each frame: R2 is 4 in both.
        int[] swapped = Bytes.frame(8, Bytes.block(0, false, 4, 1, 2, 3, 4),
            Bytes.packBlock(true, Bytes.row(1 << 2, 9, 1, ALL_SINGLE, 1, 1, 0), Bytes.stream("0")));
        good("ways begin anew", Bytes.join(swapped, swapped),
            Bytes.row(1, 2, 3, 4, 9, 2, 3, 4, 1, 2, 3, 4, 9, 2, 3, 4));
    }
}
