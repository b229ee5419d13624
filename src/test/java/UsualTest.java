/** Promise 13: the USUAL tables, worked out by hand from the document. */
public final class UsualTest {
    private static final Checks CHECKS = new Checks();

    // The places, 13 apart, are 0 13 10 7 4 1 14 11 8 5 2 15 12 9 6 3.
    private static final int[] LENGTH_CODES = {0, 2, 6, 11, 1, 5, 10, 1, 4, 9, 0, 3, 8, 0, 2, 7};
    private static final int[] LENGTH_WIDTHS = {3, 3, 4, 4, 3, 4, 4, 3, 4, 4, 2, 4, 4, 2, 3, 4};
    private static final int[] LENGTH_BASES = {8, 0, 0, 0, 0, 0, 0, 8, 0, 0, 0, 0, 0, 4, 8, 0};
    private static final int[] WAY_CODES = {0, 2, 5, 7, 2, 4, 7, 1, 4, 6, 1, 3, 6, 0, 3, 5};
    private static final int[] WAY_BASES = {0, 0, 0, 0, 8, 0, 8, 0, 8, 0, 8, 0, 8, 8, 8, 8};

    public static void main(String[] args) {
        everyState();
        otherTablesLeaveThem();
        anyOtherNumbers();
        CHECKS.end();
    }

    private static void everyState() {
        CHECKS.words("Of state s, 0 .. 15, of a USUAL table (which 0: L and M, 1: B): what 0: its code, 1: its "
            + "WIDTH, 2: its BASE;");
        askAll(new PackFrames());
    }

    private static void otherTablesLeaveThem() {
        CHECKS.words("The counts of the USUAL table for L and for M are 3, 2, 2 and nine times 1, for B eight "
            + "times 2.");
        PackFrames x = new PackFrames();
        // Tables of one state and of counts, and then refused ones.
        Bytes.putAll(x, Bytes.frame(4, Bytes.packBlock(true,
            Bytes.row(4, 97, 1, 0x54, 1, 0, 0), Bytes.stream(""))));
        Bytes.putAll(x, Bytes.frame(4, Bytes.packBlock(true,
            Bytes.row(4, 97, 1, 0xA8, 2, 0x88, 2, 0xF1, 2, 0xF1), Bytes.stream("0010 0000 0000"))));
        CHECKS.due("unpack()", x.unpack(), 8);
        askAll(x);
        Bytes.putAll(x, Bytes.frame(4, Bytes.packBlock(true, Bytes.row(4, 97, 1, 0xA8, 2, 0x88, 2, 0xF1, 2, 0xF2))));
        CHECKS.due("unpack()", x.unpack(), -1 - 32);
        askAll(x);
        x.wipe();
        Bytes.writeAll(x, Bytes.text("abcdabcdabcd"));
        x.pack(false);
        askAll(x);
    }

    private static void askAll(PackFrames x) {
        for (int s = 0; s < 16; s++) {
            CHECKS.due("usual(0, " + s + ", 0)", x.usual(0, s, 0), LENGTH_CODES[s]);
            CHECKS.due("usual(0, " + s + ", 1)", x.usual(0, s, 1), LENGTH_WIDTHS[s]);
            CHECKS.due("usual(0, " + s + ", 2)", x.usual(0, s, 2), LENGTH_BASES[s]);
            CHECKS.due("usual(1, " + s + ", 0)", x.usual(1, s, 0), WAY_CODES[s]);
            CHECKS.due("usual(1, " + s + ", 1)", x.usual(1, s, 1), 3);
            CHECKS.due("usual(1, " + s + ", 2)", x.usual(1, s, 2), WAY_BASES[s]);
        }
    }

    private static void anyOtherNumbers() {
        CHECKS.words("2: its BASE; NONE for any other numbers.");
        PackFrames x = new PackFrames();
        for (int s = 0; s < 16; s++) {
            for (int good = 0; good < 3; good++) {
                for (int which : new int[] {-1, -2, 2, 3, 256, Integer.MIN_VALUE, Integer.MAX_VALUE}) {
                    none(x, which, s, good);
                }
            }
            for (int what : new int[] {-1, -2, 3, 4, 256, Integer.MIN_VALUE, Integer.MAX_VALUE}) {
                none(x, 0, s, what);
                none(x, 1, s, what);
            }
        }
        for (int s : new int[] {-1, -2, -16, 16, 17, 32, 256, Integer.MIN_VALUE, Integer.MAX_VALUE}) {
            for (int good = 0; good < 3; good++) {
                none(x, 0, s, good);
                none(x, 1, s, good);
            }
        }
        none(x, 2, 16, 3);
        none(x, -1, -1, -1);
    }

    private static void none(PackFrames x, int which, int s, int what) {
        CHECKS.due("usual(" + which + ", " + s + ", " + what + ")", x.usual(which, s, what), PackFrames.NONE);
    }
}
