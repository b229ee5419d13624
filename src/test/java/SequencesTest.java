import java.util.ArrayList;
import java.util.List;

/** Promise 11 by hand, sentence by sentence: the SEQUENCES of a PACK, their tables and ways back. */
public final class SequencesTest {
    private static final Checks CHECKS = new Checks();
    private static final Wires WIRES = new Wires(CHECKS);
    // Tables of one state for L, B and M: what follows is their three codes.
    private static final int ALL_SINGLE = 0x54;
    private static final int[] ONE = {1 << 2, 97};
    private static final int[] FOUR = {97, 97, 97, 97};
    private static final int[] NINE = {1, 2, 3, 4, 5, 6, 7, 8, 9};
    private static final int[] NO_BITS = {1};

    public static void main(String[] args) {
        howMany();
        lowerBitsOfM();
        whatM();
        whatFollowsInOrder();
        usualTables();
        tablesOfOneCode();
        codesInRange();
        howManyCounts();
        countsAre16();
        latestTables();
        leftIsAStream();
        placesOfStates();
        widthsAndBases();
        oneStateHasNoBits();
        firstStates();
        valuesOfB();
        lengthsOfM();
        lengthsOfL();
        orderOfBits();
        nextStates();
        enoughLiterals();
        enoughBytesBack();
        waysAtFirst();
        valueAbove3();
        firstWay();
        secondWay();
        thirdAndFourthWay();
        literalsLeft();
        CHECKS.end();
    }

    /** SEQUENCES whose tables have one state each. */
    private static int[] single(int count, int l, int b, int m, String bits) {
        return Bytes.join(Bytes.row(count, ALL_SINGLE, l, b, m), Bytes.stream(bits));
    }

    private static void howMany() {
        CHECKS.words("SEQUENCES begin with a byte, how many there are; if that is 0, they end with it.");
        WIRES.goodPack("none", Bytes.row(97), ONE, Bytes.row(0));
        WIRES.badPack("none, and m", 1, ONE, Bytes.row(0, 0));
        WIRES.badPack("none, and all that belongs to one", 1, ONE, single(0, 1, 0, 0, ""));
        WIRES.badPack("no byte", 1, ONE);
        WIRES.goodPack("one", FOUR, ONE, single(1, 1, 0, 0, ""));
        WIRES.goodPack("two", Bytes.row(97, 97, 97, 97, 98, 98, 98, 98, 99), Bytes.row(3 << 2, 97, 98, 99),
            single(2, 1, 0, 0, ""));
        // 39 matches of 3 and VALUE 4, one back, behind one byte: 118.
        WIRES.good("39", Bytes.frame(118, Bytes.block(0, false, 1, 7),
            Bytes.packBlock(true, Bytes.row(0), single(39, 0, 2, 0, "00".repeat(39)))), Bytes.times(7, 118));
        WIRES.bad("40", 0, Bytes.frame(120, Bytes.block(0, false, 1, 7),
            Bytes.packBlock(true, Bytes.row(0), single(40, 0, 2, 0, "00".repeat(40)))));
        WIRES.badPack("255", 120, Bytes.row(63 << 2 | 1, 9), single(255, 0, 0, 0, ""));
    }

    private static void lowerBitsOfM() {
        CHECKS.words("Then a byte m, m & 3 being 0:");
        WIRES.badPack("no m", 1, ONE, Bytes.row(1));
        for (int low = 1; low < 4; low++) {
            WIRES.badPack("tables of one state, m & 3 is " + low, 4, ONE,
                Bytes.row(1, ALL_SINGLE | low, 1, 0, 0), NO_BITS);
            // L state 4 (code 1), B state 0 (code 0, VALUE 1), M state 10 (code 0).
            WIRES.badPack("USUAL tables, m & 3 is " + low, 4, ONE, Bytes.row(1, low), Bytes.stream("0100 0000 1010"));
        }
        WIRES.goodPack("m is 0", FOUR, ONE, Bytes.row(1, 0), Bytes.stream("0100 0000 1010"));
    }

    private static void whatM() {
        CHECKS.words("m >> 6 says of the table for the lengths L of literals, m >> 4 & 3 of that for the ways back B, "
            + "m >> 2 & 3 of that for the lengths M of matches;");
        // Only L USUAL: state 4 has code 1.
        WIRES.goodPack("L USUAL", FOUR, ONE, Bytes.row(1, 0x14, 0, 0), Bytes.stream("0100"));
        // Only B USUAL: state 4 is of code 2, VALUE 4.
        WIRES.goodPack("B USUAL", FOUR, ONE, Bytes.row(1, 0x44, 1, 0), Bytes.stream("0100 00"));
        // Only M USUAL: state 1 is of code 2, five bytes.
        WIRES.goodPack("M USUAL", Bytes.times(97, 6), ONE, Bytes.row(1, 0x50, 1, 0), Bytes.stream("0001"));
    }

    private static void whatFollowsInOrder() {
        CHECKS.words("what belongs to these follows in this order.");
        // L 1, B VALUE 4 (one back), M 3 + 5.
        WIRES.goodPack("codes of L, B and M", Bytes.times(97, 9), ONE, single(1, 1, 2, 5, "00"));
        WIRES.badPack("codes of L and M", 4, ONE, Bytes.row(1, ALL_SINGLE, 1, 0), NO_BITS);
        // L: one state for each of the codes 0 to 4, eleven for code 5; B: state 3 alone is of code 1; M: all but state 0 are.
        WIRES.goodPack("counts for L, B and M", Bytes.row(1, 2, 3, 4, 9, 2, 3, 4, 9), Bytes.row(5 << 2, 1, 2, 3, 4, 9),
            Bytes.row(1, 0xA8, 6, 0x11, 0x11, 0x1B, 2, 0xF1, 2, 0x1F), Bytes.stream("0011 0011 0001 0"));
        WIRES.badPack("cut short behind L", 4, ONE, Bytes.row(1, ALL_SINGLE, 1));
        WIRES.badPack("cut short behind m", 4, ONE, Bytes.row(1, ALL_SINGLE));
    }

    private static void usualTables() {
        CHECKS.words("0: it is the USUAL one.");
        WIRES.goodPack("all USUAL", FOUR, ONE, Bytes.row(1, 0), Bytes.stream("0100 0000 1010"));
        // USUAL again behind others: those of the block before do not last.
        int[] others = Bytes.packBlock(false, ONE, single(1, 1, 0, 0, ""));
        WIRES.good("USUAL behind others", Bytes.frame(8, others,
            Bytes.packBlock(true, ONE, Bytes.row(1, 0), Bytes.stream("0100 0000 1010"))), Bytes.times(97, 8));
        int[] counted = Bytes.packBlock(false, ONE, Bytes.row(1, 0xA8, 2, 0x88, 2, 0xF1, 2, 0xF1),
            Bytes.stream("0010 0000 0000"));
        WIRES.good("USUAL behind counts", Bytes.frame(8, counted,
            Bytes.packBlock(true, ONE, Bytes.row(1, 0), Bytes.stream("0100 0000 1010"))), Bytes.times(97, 8));
    }

    private static void tablesOfOneCode() {
        CHECKS.words("1: one byte follows, a CODE; it is a table of one state, for this code.");
        WIRES.goodPack("L 1, B 0, M 0", FOUR, ONE, single(1, 1, 0, 0, ""));
        WIRES.goodPack("L 1, B 2, M 0", FOUR, ONE, single(1, 1, 2, 0, "00"));
        WIRES.badPack("no byte for L", 4, ONE, Bytes.row(1, 0x40));
        WIRES.badPack("no byte for B", 4, ONE, Bytes.row(1, 0x10));
        WIRES.badPack("no byte for M", 4, ONE, Bytes.row(1, 0x04));
    }

    private static void codesInRange() {
        CHECKS.words("The codes are 0 .. 11, for B 0 .. 7.");
        WIRES.goodPack("L of code 11", Bytes.times(97, 19), Bytes.row(16 << 2 | 1, 97), single(1, 11, 0, 0, "000000"));
        WIRES.goodPack("M of code 11", Bytes.times(97, 26), ONE, single(1, 1, 0, 11, "0000000"));
        WIRES.good("B of code 6", Bytes.frame(64 + 3, Bytes.block(1, false, 64, 5),
            Bytes.packBlock(true, Bytes.row(0), single(1, 0, 6, 0, "000000"))), Bytes.times(5, 67));
        for (int code : new int[] {12, 13, 15, 16, 128, 255}) {
            for (int bits = 0; bits < 9; bits++) {
                String zeros = "0".repeat(bits);
                WIRES.badPack("L of code " + code, 19, Bytes.row(16 << 2 | 1, 97), single(1, code, 0, 0, zeros));
                WIRES.badPack("M of code " + code, 26, ONE, single(1, 1, 0, code, zeros));
            }
        }
        for (int code : new int[] {8, 9, 11, 12, 16, 255}) {
            for (int bits = 0; bits < 13; bits++) {
                WIRES.badPack("B of code " + code, 4, ONE, single(1, 1, code, 0, "0".repeat(bits)));
            }
        }
        // B of code 7 is a code, but more bytes back than OUT can have: the frame is refused at its use alone.
        WIRES.bad("B of code 7", 0, Bytes.frame(120, Bytes.block(1, false, 117, 5),
            Bytes.packBlock(true, Bytes.row(0), single(1, 0, 7, 0, "0000000"))));
        // State 13 is of code 7 and state 0 of code 0: only the latter is used.
        WIRES.goodPack("B of code 7 in a table", FOUR, ONE,
            Bytes.row(1, 0x64, 1, 8, 0x10, 0x00, 0x00, 0x0F, 0), Bytes.stream("0000"));
        WIRES.good("the table of code 11 kept", Bytes.frame(19 + 19,
            Bytes.packBlock(false, Bytes.row(16 << 2 | 1, 97), single(1, 11, 0, 0, "000000")),
            Bytes.packBlock(true, Bytes.row(16 << 2 | 1, 97), Bytes.row(1, 0xFC), Bytes.stream("000000"))),
            Bytes.times(97, 38));
    }

    /** n counts, all but two of them 0: 8 for code 0 and 8 for the last one. */
    private static int[] halfAndHalf(int n) {
        int[] bytes = new int[(n + 1) / 2];
        bytes[0] = 0x80;
        bytes[(n - 1) / 2] |= n % 2 == 1 ? 0x80 : 0x08;
        return Bytes.join(Bytes.row(n), bytes);
    }

    private static void howManyCounts() {
        CHECKS.words("2: n follows (1 .. 12, for B 1 .. 8),");
        for (int n = 2; n <= 12; n++) {
            // State 0 is of code 0: L 0 behind one raw byte, VALUE 4 being one back; then M 3, and VALUE 1.
            WIRES.good("n is " + n + " for L", Bytes.frame(4, Bytes.block(0, false, 1, 97), Bytes.packBlock(true,
                Bytes.row(0, 1, 0x94), halfAndHalf(n), Bytes.row(2, 0), Bytes.stream("0000 00"))), FOUR);
            WIRES.goodPack("n is " + n + " for M", FOUR, ONE,
                Bytes.row(1, 0x58, 1, 0), halfAndHalf(n), Bytes.stream("0000"));
            int[] ways = Bytes.join(Bytes.row(1, 0x64, 1), halfAndHalf(n), Bytes.row(0), Bytes.stream("0000"));
            if (n <= 8) {
                WIRES.goodPack("n is " + n + " for B", FOUR, ONE, ways);
            } else {
                WIRES.badPack("n is " + n + " for B", 4, ONE, ways);
            }
        }
        for (int n : new int[] {13, 14, 16, 128, 255}) {
            WIRES.bad("n is " + n + " for L", 0, Bytes.frame(4, Bytes.block(0, false, 1, 97), Bytes.packBlock(true,
                Bytes.row(0, 1, 0x94), halfAndHalf(n), Bytes.row(2, 0), Bytes.stream("0000 00"))));
            WIRES.badPack("n is " + n + " for M", 4, ONE, Bytes.row(1, 0x58, 1, 0), halfAndHalf(n), Bytes.stream("0000"));
            WIRES.badPack("n is " + n + " for B", 4, ONE,
                Bytes.row(1, 0x64, 1), halfAndHalf(n), Bytes.row(0), Bytes.stream("0000"));
        }
        WIRES.badPack("n is 0 for L", 4, ONE, Bytes.row(1, 0x94, 0, 0, 0), Bytes.stream("0010"));
        WIRES.badPack("n is 0 for B", 4, ONE, Bytes.row(1, 0x64, 1, 0, 0), Bytes.stream("0000"));
        WIRES.badPack("n is 0 for M", 4, ONE, Bytes.row(1, 0x58, 1, 0, 0), Bytes.stream("0000"));
        WIRES.badPack("no n", 4, ONE, Bytes.row(1, 0x58, 1, 0));
    }

    private static void countsAre16() {
        CHECKS.words("and (n + 1) / 2 bytes with counts 0 .. 15 of the codes 0 .. n - 1, two in a byte as in a TREE; "
            + "they must be 16 in all.");
        for (int a = 0; a < 16; a++) {
            for (int b = 0; b < 16; b++) {
                int[] counts = Bytes.join(Bytes.row(1, 0x58, 1, 0, 2, a << 4 | b), Bytes.stream("0000"));
                if (a + b == 16) {
                    WIRES.goodPack(a + " and " + b, FOUR, ONE, counts);
                } else {
                    // Whichever of the two codes state 0 would have.
                    WIRES.badPack(a + " and " + b, 4, ONE, counts);
                    WIRES.badPack(a + " and " + b + " for M 4", 5, ONE, counts);
                }
            }
            // One count is 15 at most, so that it cannot be 16 in all.
            WIRES.badPack(a + " alone", 4, ONE, Bytes.row(1, 0x58, 1, 0, 1, a << 4), Bytes.stream("0000"));
            WIRES.badPack(a + " alone, without bits", 4, ONE, Bytes.row(1, 0x58, 1, 0, 1, a << 4), NO_BITS);
            // Three counts, and a lower half left.
            int[] three = Bytes.join(Bytes.row(1, 0x58, 1, 0, 3, 0x88, a), Bytes.stream("0000"));
            if (a == 0) {
                WIRES.goodPack("8, 8, 0 and nothing left", FOUR, ONE, three);
            } else {
                WIRES.badPack("8, 8, 0 and " + a + " left", 4, ONE, three);
            }
        }
        WIRES.badPack("8, 7, 0 and 1 left", 4, ONE, Bytes.row(1, 0x58, 1, 0, 3, 0x87, 0x01), Bytes.stream("0000"));
        WIRES.badPack("cut short", 4, ONE, Bytes.row(1, 0x94, 12, 0x88));
        // The counts of M are cut short, and those of L do not stand in for them: what is left would be a STREAM.
        WIRES.badPack("cut short behind good ones", 4, ONE, Bytes.row(1, 0x98, 2, 0x88, 0, 12), Bytes.stream("0010 0000"));
        for (int n = 3; n <= 12; n++) {
            WIRES.badPack(n + " counts in one byte", 4, ONE, Bytes.row(1, 0x94, n, 0x88));
            WIRES.badPack(n + " counts for M in one byte", 4, ONE, Bytes.row(1, 0x58, 1, 0, n, 0x88));
        }
        for (int m = 3; m < 7; m++) {
            WIRES.badPack("32 in all, M " + m, 1 + m, ONE, Bytes.row(1, 0x58, 1, 0, 4, 0x88, 0x88), Bytes.stream("0000"));
        }
        for (int bits = 0; bits < 8; bits++) {
            WIRES.badPack("180 in all", 26, ONE, Bytes.row(1, 0x58, 1, 0, 12, 255, 255, 255, 255, 255, 255),
                Bytes.stream("0000" + "0".repeat(bits)));
        }
    }

    private static void latestTables() {
        CHECKS.words("3: it is the one that was latest for L, B or M in this frame (there must be one).");
        int[] usual = Bytes.packBlock(false, ONE, Bytes.row(1, 0), Bytes.stream("0100 0000 1010"));
        int[] single = Bytes.packBlock(false, ONE, single(1, 1, 0, 0, ""));
        int[] noSequence = Bytes.packBlock(false, Bytes.row(1 << 2, 98, 0));
        int[] againUsual = Bytes.packBlock(true, ONE, Bytes.row(1, 0xFC), Bytes.stream("0100 0000 1010"));
        int[] againSingle = Bytes.packBlock(true, ONE, Bytes.row(1, 0xFC), NO_BITS);
        int[] againSingleOn = Bytes.packBlock(false, ONE, Bytes.row(1, 0xFC), NO_BITS);
        WIRES.good("USUAL ones", Bytes.frame(8, usual, againUsual), Bytes.times(97, 8));
        WIRES.good("ones of one state", Bytes.frame(8, single, againSingle), Bytes.times(97, 8));
        WIRES.good("again and again", Bytes.frame(12, single, againSingleOn, againSingle), Bytes.times(97, 12));
        WIRES.good("no sequences between", Bytes.frame(9, single, noSequence, againSingle),
            Bytes.row(97, 97, 97, 97, 98, 97, 97, 97, 97));
        WIRES.bad("not the latest", 0, Bytes.frame(12, single, usual, againSingle));
        WIRES.good("the latest", Bytes.frame(12, single, usual, againUsual), Bytes.times(97, 12));
        int[] counts = Bytes.packBlock(false, ONE, Bytes.row(1, 0x94, 2, 0x88, 0, 0), Bytes.stream("0010"));
        WIRES.good("one of counts", Bytes.frame(8, counts, Bytes.packBlock(true, ONE,
            Bytes.row(1, 0xD4, 0, 0), Bytes.stream("0010"))), Bytes.times(97, 8));
        WIRES.bad("none yet", 0, Bytes.frame(4, againSingle));
        WIRES.bad("none yet behind no sequences", 0, Bytes.frame(5, noSequence, againSingle));
        int[] frame = Bytes.frame(8, single, againSingle);
        WIRES.bad("one of another frame", frame.length, Bytes.join(frame, Bytes.frame(4, againSingle)));
        for (int m : new int[] {0xD4, 0x74, 0x5C}) {
            int[] one = Bytes.packBlock(true, ONE, Bytes.row(1, m, m == 0xD4 ? 0 : 1, 0), NO_BITS);
            WIRES.bad("none yet for m " + m, 0, Bytes.frame(4, one));
            WIRES.good("one there for m " + m, Bytes.frame(8, single, one), Bytes.times(97, 8));
        }
        // L, B and M each have their own: M of code 4 stays while L and B are new.
        WIRES.good("each its own", Bytes.frame(8 + 8, Bytes.packBlock(false, ONE, single(1, 1, 0, 4, "")),
            Bytes.packBlock(true, ONE, Bytes.row(1, 0x5C, 1, 2), Bytes.stream("00"))), Bytes.times(97, 16));
    }

    private static void leftIsAStream() {
        CHECKS.words("What is left of the PACK is a STREAM.");
        int[] head = Bytes.join(ONE, Bytes.row(1, ALL_SINGLE, 1, 0, 0));
        WIRES.goodPack("a byte 1", FOUR, head, NO_BITS);
        WIRES.badPack("nothing", 4, head);
        WIRES.badPack("a byte 0", 4, head, Bytes.row(0));
        WIRES.badPack("a byte 0 behind", 4, head, Bytes.row(1, 0));
        WIRES.badPack("a byte 1 behind", 4, head, Bytes.row(1, 1));
        WIRES.badPack("a bit", 4, head, Bytes.row(2));
        // The STREAM ends with its PACK, not with the wire or the next block.
        WIRES.bad("nothing, and a block behind", 0, Bytes.frame(4,
            Bytes.packBlock(false, head), Bytes.block(0, true, 0)));
    }

    // 15 for code 0 and 1 for code 1: state 3 is of code 1.
    private static final int[][] FIFTEEN_ONE = {
        {0, 0, 0, 1, 0, 0, 0, 0, 0, 0, 0, 0, 0, 0, 0, 0},
        {1, 0, 0, 4, 0, 0, 0, 0, 0, 0, 0, 0, 0, 0, 0, 0},
        {14, 0, 1, 0, 2, 3, 4, 5, 6, 7, 8, 9, 10, 11, 12, 13}};
    // 5 for code 0 (states 0 4 7 10 13, x = 5 .. 9) and 11 for code 1 (x = 11 .. 21).
    private static final int[][] FIVE_ELEVEN = {
        {0, 1, 1, 1, 0, 1, 1, 0, 1, 1, 0, 1, 1, 0, 1, 1},
        {2, 1, 1, 1, 2, 1, 1, 2, 0, 0, 1, 0, 0, 1, 0, 0},
        {4, 6, 8, 10, 8, 12, 14, 12, 0, 1, 0, 2, 3, 2, 4, 5}};
    // 1 for code 0 (state 0), 15 for code 1 (x = 15 .. 29).
    private static final int[][] ONE_FIFTEEN = {
        {0, 1, 1, 1, 1, 1, 1, 1, 1, 1, 1, 1, 1, 1, 1, 1},
        {4, 1, 0, 0, 0, 0, 0, 0, 0, 0, 0, 0, 0, 0, 0, 0},
        {0, 14, 0, 1, 2, 3, 4, 5, 6, 7, 8, 9, 10, 11, 12, 13}};

    private static void placesOfStates() {
        CHECKS.words("for code after code, as often as its count says, the state at a place gets this code, "
            + "the place being 0 at first and (place + 13) & 15 after each.");
        int[] places = {0, 13, 10, 7, 4, 1, 14, 11, 8, 5, 2, 15, 12, 9, 6, 3};
        // M: one state for each of the codes 0 to 6 and nine for code 7.
        // L: one state for each of the codes 1 to 7 and nine for code 8, which has a bit of its own.
        for (int i = 0; i < 16; i++) {
            int code = Math.min(i, 7);
            WIRES.goodPack("place " + places[i] + " of M", Bytes.times(97, 1 + 3 + code), ONE,
                Bytes.row(1, 0x58, 1, 0, 8, 0x11, 0x11, 0x11, 0x19), Bytes.stream(Wires.binary(places[i], 4)));
            WIRES.goodPack("place " + places[i] + " of L", Bytes.times(97, 8 + 3), Bytes.row(8 << 2 | 1, 97),
                Bytes.row(1, 0x94, 9, 0x01, 0x11, 0x11, 0x11, 0x90, 0, 0),
                Bytes.stream(Wires.binary(places[i], 4) + (i >= 7 ? "0" : "")));
        }
        // B: four states for each of the codes 3 to 6, whose least W is 2 ^ c - 3.
        for (int i = 0; i < 16; i++) {
            int code = 3 + i / 4;
            WIRES.good("place " + places[i] + " of B", Bytes.frame(73, Bytes.block(1, false, 70, 4),
                Bytes.packBlock(true, Bytes.row(0, 1, 0x64, 0, 8, 0x00, 0x04, 0x44, 0x40, 0),
                    Bytes.stream(Wires.binary(places[i], 4) + "0".repeat(code)))), Bytes.times(4, 73));
        }
    }

    private static void widthsAndBases() {
        CHECKS.words("The states of a code with the count c, from the least on, have x = c, c + 1, ..; WIDTH is "
            + "the least number "
            + "for which x << WIDTH is 16 or more, and BASE is (x << WIDTH) - 16.");
        walk(0xF1, FIFTEEN_ONE);
        walk(0x5B, FIVE_ELEVEN);
        walk(0x1F, ONE_FIFTEEN);
    }

    /** From each state to each that follows it, for L, B and M, and with a bit more or less than WIDTH. */
    private static void walk(int counts, int[][] table) {
        for (int s = 0; s < 16; s++) {
            for (int more = 0; more < 1 << table[1][s]; more++) {
                int next = table[2][s] + more;
                String bits = Wires.binary(more, table[1][s]);
                walkOfMatches(counts, table[0], s, next, bits);
                walkOfLiterals(counts, table[0], s, next, bits);
                walkOfWays(counts, table[0], s, next, bits);
            }
        }
    }

    private static void walkOfMatches(int counts, int[] codes, int s, int next, String bits) {
        int[] out = Bytes.times(97, 2 + 3 + codes[s] + 3 + codes[next]);
        int[] head = Bytes.row(2 << 2 | 1, 97, 2, 0x58, 1, 0, 2, counts);
        String what = "M from state " + s + " to " + next + " of counts " + counts;
        WIRES.goodPack(what, out, head, Bytes.stream(Wires.binary(s, 4) + bits));
        WIRES.badPack(what + ", a bit more", out.length, head, Bytes.stream(Wires.binary(s, 4) + bits + "0"));
        if (!bits.isEmpty()) {
            WIRES.badPack(what + ", a bit less", out.length, head,
                Bytes.stream(Wires.binary(s, 4) + bits.substring(1)));
        }
    }

    private static void walkOfLiterals(int counts, int[] codes, int s, int next, String bits) {
        List<Integer> out = new ArrayList<>(List.of(5));
        int literal = 1;
        for (int l : new int[] {codes[s], codes[next]}) {
            if (l == 1) {
                out.add(literal++);
            }
            // VALUE 4 is one back.
            out.addAll(List.of(out.get(out.size() - 1), out.get(out.size() - 1), out.get(out.size() - 1)));
        }
        while (literal <= 2) {
            out.add(literal++);
        }
        WIRES.good("L from state " + s + " to " + next + " of counts " + counts, Bytes.frame(out.size(),
            Bytes.block(0, false, 1, 5), Bytes.packBlock(true, Bytes.row(2 << 2, 1, 2, 2, 0x94, 2, counts, 2, 0),
                Bytes.stream(Wires.binary(s, 4) + "00" + bits + "00"))), Bytes.array(out));
    }

    private static void walkOfWays(int counts, int[] codes, int s, int next, String bits) {
        List<Integer> out = new ArrayList<>(List.of(1, 2, 3, 4, 5, 6, 7, 8, 9));
        // VALUE 1 is R1 and VALUE 2 is R2, which come to 1 and 4 at first and change over with VALUE 2.
        int r1 = 1;
        int r2 = 4;
        StringBuilder all = new StringBuilder(Wires.binary(s, 4));
        for (int code : new int[] {codes[s], codes[next]}) {
            all.append(code == 1 ? "0" : "");
            if (code == 1) {
                int first = r1;
                r1 = r2;
                r2 = first;
            }
            out.add(0);
            for (int i = 0; i < 3; i++) {
                out.add(out.get(out.size() - r1));
            }
            all.append(out.size() == 13 ? bits : "");
        }
        WIRES.good("B from state " + s + " to " + next + " of counts " + counts, Bytes.frame(out.size(),
            Bytes.block(0, false, 9, NINE), Bytes.packBlock(true, Bytes.row(2 << 2 | 1, 0, 2, 0x64, 1, 2, counts, 0),
                Bytes.stream(all.toString()))), Bytes.array(out));
    }

    private static void oneStateHasNoBits() {
        CHECKS.words("A table of one state has WIDTH 0 and BASE 0.");
        for (int n = 1; n <= 10; n++) {
            WIRES.goodPack(n + " sequences", Bytes.times(97, 4 * n), Bytes.row(n << 2 | 1, 97), single(n, 1, 0, 0, ""));
            WIRES.badPack(n + " sequences and a bit", 4 * n, Bytes.row(n << 2 | 1, 97), single(n, 1, 0, 0, "0"));
        }
        // The state that a table of one state is in is 0, whatever the table before it was in: 15.
        int[] counted = Bytes.packBlock(false, ONE, Bytes.row(1, 0xA8, 2, 0x88, 2, 0xF1, 2, 0xF1),
            Bytes.stream("1111 1111 1111"));
        WIRES.good("behind a table of counts", Bytes.frame(8, counted, Bytes.packBlock(true, ONE, single(1, 1, 0, 0, ""))),
            Bytes.times(97, 8));
    }

    private static void firstStates() {
        CHECKS.words("the states of L, B and M, 4 bits each (none for a table of one state).");
        // L state 4 (1), B state 4 (code 2, two bits), M state 1 (5 bytes).
        WIRES.goodPack("all three", Bytes.times(97, 6), ONE, Bytes.row(1, 0), Bytes.stream("0100 0100 0001 00"));
        WIRES.badPack("in another order", 6, ONE, Bytes.row(1, 0), Bytes.stream("0001 0100 0100 00"));
        WIRES.goodPack("L and M", Bytes.times(97, 6), ONE, Bytes.row(1, 0x10, 0), Bytes.stream("0100 0001"));
        WIRES.goodPack("B and M", Bytes.times(97, 6), ONE, Bytes.row(1, 0x40, 1), Bytes.stream("0100 0001 00"));
        WIRES.goodPack("L and B", FOUR, ONE, Bytes.row(1, 0x04, 0), Bytes.stream("0100 0100 00"));
        WIRES.badPack("three bits of four", 4, ONE, Bytes.row(1, 0x14, 0, 0), Bytes.stream("010"));
        WIRES.badPack("no bits", 4, ONE, Bytes.row(1, 0), NO_BITS);
        for (int s = 0; s < 16; s++) {
            // Of the USUAL table for M: the codes by hand, and 0s for their bits.
            int[] codes = {0, 2, 6, 11, 1, 5, 10, 1, 4, 9, 0, 3, 8, 0, 2, 7};
            int[] least = {3, 4, 5, 6, 7, 8, 9, 10, 11, 13, 17, 25};
            int[] bits = {0, 0, 0, 0, 0, 0, 0, 0, 1, 2, 3, 7};
            WIRES.goodPack("M state " + s, Bytes.times(97, 1 + least[codes[s]]), ONE, Bytes.row(1, 0x50, 1, 0),
                Bytes.stream(Wires.binary(s, 4) + "0".repeat(bits[codes[s]])));
        }
    }

    private static void valuesOfB() {
        CHECKS.words("for B of code c: c bits, and the VALUE is 2 ^ c more than these.");
        int[] far = new int[117];
        for (int i = 0; i < far.length; i++) {
            far[i] = i + 1;
        }
        for (int code = 2; code < 8; code++) {
            for (int more : new int[] {0, 1, (1 << code) - 2, (1 << code) - 1}) {
                int way = (1 << code) + more - 3;
                int[] blocks = Bytes.join(Bytes.block(0, false, 117, far),
                    Bytes.packBlock(true, Bytes.row(0), single(1, 0, code, 0, Wires.binary(more, code))));
                int[] wire = Bytes.frame(120, blocks);
                if (way > 117) {
                    WIRES.bad("VALUE " + (way + 3), 0, wire);
                } else {
                    int[] again = {0, 0, 0};
                    for (int i = 0; i < 3; i++) {
                        again[i] = i < way ? far[117 - way + i] : again[i - way];
                    }
                    WIRES.good("VALUE " + (way + 3), wire, Bytes.join(far, again));
                }
            }
        }
        // VALUE 1 of code 0, 2 and 3 of code 1, with a literal: one, four and eight back.
        ways("VALUE 1", nineAndLiterals(0, 1, ""), 0, 0, 0, 0);
        ways("VALUE 2", nineAndLiterals(1, 1, "0"), 0, 7, 8, 9);
        ways("VALUE 3", nineAndLiterals(1, 1, "1"), 0, 3, 4, 5);
    }

    private static void lengthsOfM() {
        CHECKS.words("For M of code c: its length is 3 + c for c below 8; for 8, 9, 10, 11 it is 11, 13, 17, 25 "
            + "and 1, 2, 3, 7 bits more.");
        int[] least = {3, 4, 5, 6, 7, 8, 9, 10, 11, 13, 17, 25};
        int[] bits = {0, 0, 0, 0, 0, 0, 0, 0, 1, 2, 3, 7};
        for (int c = 0; c < 12; c++) {
            for (int more = 0; more < 1 << bits[c]; more++) {
                int n = least[c] + more;
                int[] sequence = single(1, 1, 0, c, Wires.binary(more, bits[c]));
                if (n <= 119) {
                    WIRES.goodPack("M " + n, Bytes.times(97, 1 + n), ONE, sequence);
                    WIRES.badPack("M " + n + " and one bit more", 1 + n, ONE,
                        single(1, 1, 0, c, Wires.binary(more, bits[c]) + "0"));
                } else {
                    WIRES.badPack("M " + n, 120, ONE, sequence);
                }
            }
        }
    }

    private static void lengthsOfL() {
        CHECKS.words("For L of code c: c itself below 8; for 8, 9, 10, 11 it is 8, 10, 12, 16 and 1, 1, 2, 6 "
            + "bits more.");
        int[] least = {0, 1, 2, 3, 4, 5, 6, 7, 8, 10, 12, 16};
        int[] bits = {0, 0, 0, 0, 0, 0, 0, 0, 1, 1, 2, 6};
        for (int c = 1; c < 12; c++) {
            for (int more = 0; more < 1 << bits[c]; more++) {
                int n = least[c] + more;
                int[] sequence = single(1, c, 0, 0, Wires.binary(more, bits[c]));
                if (n <= 63) {
                    // All literals ahead of the match but one, and one behind it.
                    int count = Math.min(63, n + 1);
                    int[] literals = new int[count];
                    for (int i = 0; i < count; i++) {
                        literals[i] = i + 1;
                    }
                    WIRES.goodPack("L " + n, Bytes.join(java.util.Arrays.copyOf(literals, n), Bytes.times(n, 3),
                        java.util.Arrays.copyOfRange(literals, n, count)), Bytes.row(count << 2), literals, sequence);
                } else {
                    WIRES.badPack("L " + n, 66, Bytes.row(63 << 2 | 1, 97), sequence);
                }
            }
        }
        // L 0: VALUE 4 is one back.
        WIRES.good("L 0", Bytes.frame(5, Bytes.block(0, false, 1, 5), Bytes.packBlock(true, Bytes.row(1 << 2, 6),
            single(1, 0, 2, 0, "00"))), Bytes.row(5, 5, 5, 5, 6));
    }

    private static void orderOfBits() {
        CHECKS.words("Then for each sequence, its codes being those of the states: for B of code c:");
        // VALUE 6 by 10, M 12 by 1 and L 8 by 0: no other order of these bits does it.
        WIRES.goodPack("bits of B, M and L", Bytes.join(Bytes.row(1, 2, 3, 4, 5, 6, 7, 8), Bytes.row(6, 7, 8, 6, 7, 8),
            Bytes.row(6, 7, 8, 6, 7, 8), Bytes.row(9)), Bytes.row(9 << 2, 1, 2, 3, 4, 5, 6, 7, 8, 9),
            single(1, 8, 2, 8, "10 1 0"));
        // The bits of the second sequence stand behind all of the first one's: L 8 and 9, VALUES 4 and 5, M 11 and 12.
        WIRES.goodPack("bits of two sequences", Bytes.join(Bytes.row(1, 2, 3, 4, 5, 6, 7, 8), Bytes.times(8, 11),
            Bytes.row(1, 2, 3, 4, 5, 6, 7, 8, 9), Bytes.row(8, 9, 8, 9, 8, 9, 8, 9, 8, 9, 8, 9)),
            Bytes.row(17 << 2, 1, 2, 3, 4, 5, 6, 7, 8, 1, 2, 3, 4, 5, 6, 7, 8, 9), single(2, 8, 2, 8, "00 0 0 01 1 1"));
    }

    private static void nextStates() {
        CHECKS.words("Then, but not after the last sequence, each of L, M, B in this order: the next state is "
            + "its BASE and WIDTH bits more.");
        // L state 4 (1; WIDTH 3, BASE 0), B state 0 (VALUE 1; WIDTH 3, BASE 0), M state 10 (3; WIDTH 2, BASE 0).
        // Then L state 4, M state 1 (5 bytes) and B state 1 (code 2, VALUE 7, four back).
        String two = "0100 0000 1010 100 01 001 11";
        int[] out = Bytes.row(97, 97, 97, 97, 98, 97, 97, 97, 98, 97);
        int[] head = Bytes.row(2 << 2, 97, 98, 2, 0);
        WIRES.goodPack("L, M and B", out, head, Bytes.stream(two));
        WIRES.badPack("L, B and M", out.length, head, Bytes.stream("0100 0000 1010 100 001 01 11"));
        WIRES.badPack("states after the last one", out.length, head, Bytes.stream(two + "000 000 000"));
        WIRES.badPack("one bit after the last one", out.length, head, Bytes.stream(two + "0"));
        WIRES.badPack("one bit less", out.length, head, Bytes.stream("0100 0000 1010 100 01 001 1"));
        WIRES.badPack("no next states", out.length, head, Bytes.stream("0100 0000 1010"));
        // BASE is not 0: L from state 7 (1; WIDTH 3, BASE 8) by 011 to 11 (3).
        WIRES.goodPack("BASE 8", Bytes.row(1, 1, 1, 1, 2, 3, 4, 4, 4, 4), Bytes.row(4 << 2, 1, 2, 3, 4, 2, 0x14, 0, 0),
            Bytes.stream("0111 011"));
    }

    private static void enoughLiterals() {
        CHECKS.words("the next L literals are put OUT (there must be so many);");
        for (int n = 1; n <= 7; n++) {
            WIRES.goodPack(n + " of " + n, Bytes.times(97, n + 3), Bytes.row(n << 2 | 1, 97), single(1, n, 0, 0, ""));
            WIRES.badPack(n + " of one less", n + 3, Bytes.row((n - 1) << 2 | 1, 97), single(1, n, 0, 0, ""));
            WIRES.badPack(n + " of one less, and so SIZE", n + 2, Bytes.row((n - 1) << 2 | 1, 97), single(1, n, 0, 0, ""));
        }
        WIRES.badPack("the second sequence has none", 8, ONE, single(2, 1, 0, 0, ""));
        WIRES.badPack("the second sequence has none, and so SIZE", 7, ONE, single(2, 1, 0, 0, ""));
        WIRES.badPack("the second sequence has one of two", 10, Bytes.row(3 << 2 | 1, 97), single(2, 2, 0, 0, ""));
        WIRES.badPack("64 of 63", 67, Bytes.row(63 << 2 | 1, 9), single(1, 11, 0, 0, "110000"));
        // Literals of an earlier PACK are gone.
        WIRES.bad("those left from another PACK", 0, Bytes.frame(7, Bytes.packBlock(false, Bytes.row(3 << 2 | 1, 97, 0)),
            Bytes.packBlock(true, Bytes.row(0), single(1, 1, 0, 0, ""))));
    }

    private static void enoughBytesBack() {
        CHECKS.words("the way back is W, and M bytes are put OUT, each being that W bytes before the end of OUT "
            + "(there must be so many).");
        WIRES.goodPack("one of one", Bytes.row(5, 5, 5, 5), Bytes.row(1 << 2, 5), single(1, 1, 2, 0, "00"));
        WIRES.badPack("two of one", 4, Bytes.row(1 << 2, 5), single(1, 1, 2, 0, "01"));
        WIRES.goodPack("two of two", Bytes.row(5, 6, 5, 6, 5), Bytes.row(2 << 2, 5, 6), single(1, 2, 2, 0, "01"));
        WIRES.badPack("three of two", 5, Bytes.row(2 << 2, 5, 6), single(1, 2, 2, 0, "10"));
        WIRES.goodPack("three of three", Bytes.row(5, 6, 7, 5, 6, 7), Bytes.row(3 << 2, 5, 6, 7), single(1, 3, 2, 0, "10"));
        WIRES.badPack("R2 of three", 6, Bytes.row(3 << 2, 5, 6, 7), single(1, 3, 1, 0, "0"));
        WIRES.badPack("R3 of seven", 10, Bytes.row(7 << 2 | 1, 5), single(1, 7, 1, 0, "1"));
        WIRES.badPack("one of nothing", 3, Bytes.row(0), single(1, 0, 2, 0, "00"));
        // Literals that are left are not OUT yet.
        WIRES.badPack("one of nothing, with a literal left", 4, Bytes.row(1 << 2, 5), single(1, 0, 2, 0, "00"));
        // A frame's OUT is its own: what is ahead of it on the wire is out of reach.
        WIRES.bad("of the frame before", 7, Bytes.join(Wires.run(1, 9),
            Bytes.frame(4, Bytes.packBlock(true, Bytes.row(1 << 2, 5), single(1, 1, 2, 0, "01")))));
        // But it reaches over blocks.
        WIRES.good("of the block before", Bytes.frame(6, Bytes.block(0, false, 3, 1, 2, 3),
            Bytes.packBlock(true, Bytes.row(0), single(1, 0, 2, 0, "10"))), Bytes.row(1, 2, 3, 1, 2, 3));
        // 117 of 117 and 118 of 117 are asked with VALUES 120 and 121 of code 6.
        int[] far = Bytes.times(3, 117);
        far[0] = 1;
        far[1] = 2;
        WIRES.good("117 of 117", Bytes.frame(120, Bytes.block(0, false, 117, far),
            Bytes.packBlock(true, Bytes.row(0), single(1, 0, 6, 0, "111000"))), Bytes.join(far, Bytes.row(1, 2, 3)));
        WIRES.bad("118 of 117", 0, Bytes.frame(120, Bytes.block(0, false, 117, far),
            Bytes.packBlock(true, Bytes.row(0), single(1, 0, 6, 0, "111001"))));
    }

    /** Nine raw bytes and then matches of 3, L being 0. */
    private static int[] nineAnd(int wayCode, int sequences, String bits) {
        return Bytes.join(Bytes.block(0, false, 9, NINE),
            Bytes.packBlock(true, Bytes.row(0), single(sequences, 0, wayCode, 0, bits)));
    }

    /** The same with one literal 0 ahead of each match. */
    private static int[] nineAndLiterals(int wayCode, int sequences, String bits) {
        return Bytes.join(Bytes.block(0, false, 9, NINE),
            Bytes.packBlock(true, Bytes.row(sequences << 2 | 1, 0), single(sequences, 1, wayCode, 0, bits)));
    }

    private static void ways(String what, int[] blocks, int... matched) {
        WIRES.good(what, Bytes.frame(9 + matched.length, blocks), Bytes.join(NINE, matched));
    }

    private static void waysAtFirst() {
        CHECKS.words("R1, R2, R3 are 1, 4, 8 when a frame begins.");
        ways("R1", nineAndLiterals(0, 1, ""), 0, 0, 0, 0);
        ways("R2", nineAndLiterals(1, 1, "0"), 0, 7, 8, 9);
        ways("R3", nineAndLiterals(1, 1, "1"), 0, 3, 4, 5);
        // They begin anew with each frame, and only then: R2 is 4 in both.
        int[] four = Bytes.frame(8, Bytes.block(0, false, 4, 1, 2, 3, 4),
            Bytes.packBlock(true, Bytes.row(1 << 2, 9), single(1, 1, 1, 0, "0")));
        WIRES.good("anew with a frame", Bytes.join(four, four),
            Bytes.row(1, 2, 3, 4, 9, 2, 3, 4, 1, 2, 3, 4, 9, 2, 3, 4));
        // VALUE 5 makes R1 2; in the next block, R1 by VALUE 1 is 2.
        WIRES.good("not anew with a block", Bytes.frame(9 + 3 + 4, Bytes.block(0, false, 9, NINE),
            Bytes.packBlock(false, Bytes.row(0), single(1, 0, 2, 0, "01")),
            Bytes.packBlock(true, Bytes.row(1 << 2, 0), single(1, 1, 0, 0, ""))),
            Bytes.join(NINE, Bytes.row(8, 9, 8, 0, 8, 0, 8)));
        // The same with a raw block and a run between.
        WIRES.good("not anew behind a raw block and a run", Bytes.frame(9 + 3 + 2 + 4, Bytes.block(0, false, 9, NINE),
            Bytes.packBlock(false, Bytes.row(0), single(1, 0, 2, 0, "01")),
            Bytes.block(0, false, 1, 60), Bytes.block(1, false, 1, 70),
            Bytes.packBlock(true, Bytes.row(1 << 2, 0), single(1, 1, 0, 0, ""))),
            Bytes.join(NINE, Bytes.row(8, 9, 8, 60, 70, 0, 70, 0, 70)));
    }

    private static void valueAbove3() {
        CHECKS.words("With a VALUE above 3, W is VALUE - 3, and R3, R2, R1 become R2, R1, W.");
        ways("VALUE 4 is 1", nineAndLiterals(2, 1, "00"), 0, 0, 0, 0);
        ways("VALUE 7 is 4", nineAndLiterals(2, 1, "11"), 0, 7, 8, 9);
        // L being 0 makes no difference: VALUE 4 is 1, not R1 - 1.
        ways("VALUE 4, no literal", nineAnd(2, 1, "00"), 9, 9, 9);
        ways("VALUE 6, no literal", nineAnd(2, 1, "10"), 7, 8, 9);
        // VALUE 6: R is 3, 1, 4. Then each of the three in a block of its own.
        afterSix("R1 is 3", 0, "", 0, 8, 9, 0);
        afterSix("R2 is 1", 1, "0", 0, 0, 0, 0);
        afterSix("R3 is 4", 1, "1", 0, 7, 8, 9);
    }

    private static void afterSix(String what, int wayCode, String bits, int... matched) {
        WIRES.good(what, Bytes.frame(16, Bytes.block(0, false, 9, NINE),
            Bytes.packBlock(false, Bytes.row(0), single(1, 0, 2, 0, "10")),
            Bytes.packBlock(true, Bytes.row(1 << 2, 0), single(1, 1, wayCode, 0, bits))),
            Bytes.join(NINE, Bytes.row(7, 8, 9), matched));
    }

    private static void firstWay() {
        CHECKS.words("Otherwise, with i = VALUE, or VALUE + 1 if L is 0: i = 1: W is R1.");
        ways("i is 1", nineAndLiterals(0, 1, ""), 0, 0, 0, 0);
        // Nothing becomes another: then R2 is 4 and R3 is 8.
        ways("i is 1 and then 2", oneAndThen("0"), 0, 0, 0, 0, 5, 0, 0, 0);
        ways("i is 1 and then 3", oneAndThen("1"), 0, 0, 0, 0, 5, 7, 8, 9);
        // Without a literal VALUE 1, 2, 3 are i = 2, 3, 4.
        ways("VALUE 1, no literal", nineAnd(0, 1, ""), 6, 7, 8);
        ways("VALUE 2, no literal", nineAnd(1, 1, "0"), 2, 3, 4);
        WIRES.bad("VALUE 3, no literal, R1 being 1", 0, Bytes.frame(12, nineAnd(1, 1, "1")));
    }

    /** Nine raw bytes, a literal 0 and a match of 3 by VALUE 1, a literal 5 and one by VALUE 2 or 3. */
    private static int[] oneAndThen(String bits) {
        return Bytes.join(Bytes.block(0, false, 9, NINE),
            Bytes.packBlock(false, Bytes.row(1 << 2, 0), single(1, 1, 0, 0, "")),
            Bytes.packBlock(true, Bytes.row(1 << 2, 5), single(1, 1, 1, 0, bits)));
    }

    private static void secondWay() {
        CHECKS.words("i = 2: W is R2, and R2, R1 become R1, W.");
        ways("VALUE 2", nineAndLiterals(1, 1, "0"), 0, 7, 8, 9);
        // R1 and R2 change over each time: 4, 1, 4.
        ways("VALUE 2 three times", nineAndLiterals(1, 3, "0 0 0"), 0, 7, 8, 9, 0, 0, 0, 0, 0, 0, 0, 0);
        ways("VALUE 1 three times, no literal", nineAnd(0, 3, ""), 6, 7, 8, 8, 8, 8, 8, 8, 8);
        // R3 stays 8 with VALUE 1 and no literal too (4 1 8): behind 1 .. 9, 6, 7, 8, 0, 0 it is 7, 8, 9.
        WIRES.good("VALUE 1, no literal, and then R3", Bytes.frame(17, Bytes.block(0, false, 9, NINE),
            Bytes.packBlock(false, Bytes.row(0), single(1, 0, 0, 0, "")),
            Bytes.packBlock(true, Bytes.row(2 << 2 | 1, 0), single(1, 2, 1, 0, "1"))),
            Bytes.join(NINE, Bytes.row(6, 7, 8, 0, 0, 7, 8, 9)));
        // R3 stays 8: behind 1 .. 9, 0, 7, 8, 9, 0 it is 7, 8, 9.
        ways("VALUE 2 and 3", nineAndLiterals(1, 2, "0 1"), 0, 7, 8, 9, 0, 7, 8, 9);
    }

    private static void thirdAndFourthWay() {
        CHECKS.words("i = 3: W is R3, i = 4: W is R1 - 1 (not 0), and for both R3, R2, R1 become R2, R1, W.");
        // VALUE 3 makes it 8 1 4, VALUE 3 again 4 8 1, VALUE 3 again 1 4 8.
        ways("VALUE 3 three times", nineAndLiterals(1, 3, "1 1 1"), 0, 3, 4, 5, 0, 3, 4, 5, 0, 0, 0, 0);
        // VALUE 3 makes it 8 1 4, then VALUE 2 is 1.
        ways("VALUE 3 and 2", nineAndLiterals(1, 2, "1 0"), 0, 3, 4, 5, 0, 0, 0, 0);
        // VALUE 2 without a literal is R3 (8 1 4); VALUE 3 is then 8 - 1 (7 8 1); VALUE 3 again 6 (6 7 8).
        ways("R1 - 1", nineAnd(1, 2, "0 1"), 2, 3, 4, 6, 7, 8);
        ways("R1 - 1 twice", nineAnd(1, 3, "0 1 1"), 2, 3, 4, 6, 7, 8, 2, 3, 4);
        // 7 8 1: then VALUE 1 without a literal is 8 and VALUE 2 is 1.
        ways("R2 behind R1 - 1", nineAnd(1, 3, "0 1 0"), 2, 3, 4, 6, 7, 8, 8, 8, 8);
        WIRES.bad("R1 - 1 is 0 at once", 0, Bytes.frame(12, nineAnd(1, 1, "1")));
        // R1 is 2 by VALUE 5, then 1 by VALUE 3, and then it would be 0.
        int[] nine = Bytes.block(0, false, 9, NINE);
        int[] two = Bytes.packBlock(false, Bytes.row(0), single(1, 0, 2, 0, "01"));
        ways("R1 - 1 is 1", Bytes.join(nine, two, Bytes.packBlock(true, Bytes.row(0), single(1, 0, 1, 0, "1"))),
            8, 9, 8, 8, 8, 8);
        WIRES.bad("R1 - 1 is 0 later", 0, Bytes.frame(18, nine, two,
            Bytes.packBlock(true, Bytes.row(0), single(2, 0, 1, 0, "11"))));
        // R1 - 1 is looked for in OUT as it is: 8 - 1 of six bytes is too far.
        WIRES.bad("R1 - 1 too far", 0, Bytes.frame(9, Bytes.block(0, false, 6, 1, 2, 3, 4, 5, 6),
            Bytes.packBlock(true, Bytes.row(0), single(2, 0, 1, 0, "01"))));
    }

    private static void literalsLeft() {
        CHECKS.words("What is left of the literals is put OUT behind the last sequence.");
        WIRES.goodPack("none", FOUR, ONE, single(1, 1, 0, 0, ""));
        WIRES.goodPack("two", Bytes.row(1, 1, 1, 1, 2, 3), Bytes.row(3 << 2, 1, 2, 3), single(1, 1, 0, 0, ""));
        WIRES.goodPack("all, there being no sequences", Bytes.row(1, 2, 3), Bytes.row(3 << 2, 1, 2, 3, 0));
        WIRES.goodPack("62", Bytes.join(FOUR, Bytes.times(97, 62)), Bytes.row(63 << 2 | 1, 97), single(1, 1, 0, 0, ""));
        WIRES.badPack("left out", 4, Bytes.row(3 << 2, 1, 2, 3), single(1, 1, 0, 0, ""));
    }
}
