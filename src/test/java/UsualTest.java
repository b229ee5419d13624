/** Promise 13: the USUAL tables, worked out by hand from the document. */
public final class UsualTest {
    private static final Checks CHECKS = new Checks();

    // The places, 13 apart, are 0 13 10 7 4 1 14 11 8 5 2 15 12 9 6 3.
    private static final int[] LENGTH_CODES = {0, 2, 6, 11, 1, 5, 10, 1, 4, 9, 0, 3, 8, 0, 2, 7};
    private static final int[] LENGTH_WIDTHS = {3, 3, 4, 4, 3, 4, 4, 3, 4, 4, 2, 4, 4, 2, 3, 4};
    private static final int[] LENGTH_BASES = {8, 0, 0, 0, 0, 0, 0, 8, 0, 0, 0, 0, 0, 4, 8, 0};
    private static final int[] WAY_CODES = {0, 2, 5, 7, 2, 4, 7, 1, 4, 6, 1, 3, 6, 0, 3, 5};
    private static final int[] WAY_BASES = {0, 0, 0, 0, 8, 0, 8, 0, 8, 0, 8, 0, 8, 8, 8, 8};

    public static void main(String[] args) {
        PackFrames x = new PackFrames();
        askAll(x);
        // Other tables in a frame must leave the USUAL ones as they are.
        Bytes.putAll(x, Bytes.frame(4, Bytes.packBlock(true,
            Bytes.row(4, 97, 1, 0x54, 1, 0, 0), Bytes.stream(""))));
        CHECKS.due("unpack()", x.unpack(), 4);
        askAll(x);
        int[][] none = {{-1, 0, 0}, {2, 0, 0}, {0, -1, 0}, {0, 16, 0}, {1, 16, 1}, {0, 0, -1}, {0, 0, 3},
            {1, 15, 3}, {Integer.MIN_VALUE, 0, 0}, {0, Integer.MAX_VALUE, 0}, {0, 0, Integer.MIN_VALUE}};
        for (int[] q : none) {
            CHECKS.due("usual" + Bytes.show(q), x.usual(q[0], q[1], q[2]), PackFrames.NONE);
        }
        CHECKS.end();
    }

    private static void askAll(PackFrames x) {
        for (int s = 0; s < 16; s++) {
            CHECKS.due("usual(0, " + s + ", 0)", x.usual(0, s, 0), LENGTH_CODES[s]);
            CHECKS.due("usual(0, " + s + ", 1)", x.usual(0, s, 1), LENGTH_WIDTHS[s]);
            CHECKS.due("usual(0, " + s + ", 2)", x.usual(0, s, 2), LENGTH_BASES[s]);
            CHECKS.due("usual(1, " + s + ", 0)", x.usual(1, s, 0), WAY_CODES[s]);
            CHECKS.due("usual(1, " + s + ", 1)", x.usual(1, s, 1), 3);
            CHECKS.due("usual(1, " + s + ", 2)", x.usual(1, s, 2), WAY_BASES[s]);
        }
    }
}
