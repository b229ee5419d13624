import java.util.stream.IntStream;

/** Promise 9 by hand: frames worked out from the document, and the edges between its kinds. */
public final class PackTest {
    private static final Checks CHECKS = new Checks();

    public static void main(String[] args) {
        nothing();
        runs();
        raw();
        oneMatch();
        twoMatches();
        matchesAndWays();
        tree();
        deepestTree();
        treeOrPlain();
        literalLimit();
        packsThatAreNotShorter();
        theCheck();
        full();
        addsBehind();
        CHECKS.end();
    }

    private static PackFrames holding(int[] content) {
        PackFrames x = new PackFrames();
        Bytes.writeAll(x, content);
        return x;
    }

    private static void packs(String what, int[] content, int... wire) {
        PackFrames x = holding(content);
        CHECKS.due("pack(false) of " + what, x.pack(false), wire.length);
        CHECKS.due("wire of " + what, Bytes.wireOf(x), Bytes.show(wire));
        CHECKS.due("CONTENT of " + what, Bytes.contentOf(x), Bytes.show(content));
        CHECKS.due("unpack() of " + what, x.unpack(), content.length);
        CHECKS.due("CONTENT again of " + what, Bytes.contentOf(x), Bytes.show(content));
    }

    private static int typeOf(int[] content) {
        PackFrames x = holding(content);
        x.pack(false);
        int type = x.wire(4) >> 1 & 3;
        x.clear();
        CHECKS.due("unpack()", x.unpack(), content.length);
        CHECKS.due("CONTENT again", Bytes.contentOf(x), Bytes.show(content));
        return type;
    }

    private static void nothing() {
        packs("nothing", Bytes.row(), 90, 0, 0, 0, 1, 0);
        PackFrames x = new PackFrames();
        CHECKS.due("pack(true) of nothing", x.pack(true), 8);
        CHECKS.due("wire", Bytes.wireOf(x), "[90, 1, 0, 0, 1, 0, 0, 0]");
    }

    private static void runs() {
        packs("one byte", Bytes.row(0), 90, 0, 1, 0, 1 << 3 | 3, 0, 0);
        packs("two bytes", Bytes.row(255, 255), 90, 0, 2, 0, 2 << 3 | 3, 0, 255);
        packs("31 bytes", Bytes.times(7, 31), 90, 0, 31, 0, 251, 0, 7);
        packs("32 bytes", Bytes.times(7, 32), 90, 0, 32, 0, 3, 1, 7);
        packs("120 bytes", Bytes.times(7, 120), 90, 0, 120, 0, 24 << 3 | 3, 3, 7);
    }

    private static void raw() {
        packs("two bytes", Bytes.row(1, 2), 90, 0, 2, 0, 17, 0, 1, 2);
        int[] all = IntStream.range(100, 220).toArray();
        packs("120 bytes, no two the same", all, Bytes.join(Bytes.row(90, 0, 120, 0, 24 << 3 | 1, 3), all));
    }

    private static void oneMatch() {
        // L 4: code 4, state 8. W 4 is R2: VALUE 2, code 1, state 7, bit 0. M 6: code 3, state 11.
        packs("abcdabcdab", Bytes.text("abcdabcdab"), Bytes.join(Bytes.row(90, 0, 10, 0, 77, 0),
            Bytes.row(16, 97, 98, 99, 100, 1, 0), Bytes.stream("1000 0111 1011 0")));
    }

    private static void twoMatches() {
        // abcdef abcdef x def x def x d: W 6 is VALUE 9, code 3, bits 001; L 6 and M 6: codes 6 and 3.
        // Then L 1 and W 4 by VALUE 3 (R is 6 1 4), M 8: codes 1, 1 and 5.
        // The last states: L 4, M 5, B 7. L before: state 2 (WIDTH 4, BASE 0), bits 0100.
        // M before: state 11 (WIDTH 4), bits 0101. B before, code 3: state 11 (WIDTH 3, BASE 0), bits 111.
        packs("two matches", Bytes.text("abcdefabcdefxdefxdefx"), Bytes.join(Bytes.row(90, 0, 21, 0, 117, 0),
            Bytes.row(28, 97, 98, 99, 100, 101, 102, 120, 2, 0),
            Bytes.stream("0010 1011 1011 001 0100 0101 111 1")));
    }

    private static void matchesAndWays() {
        // The greatest of several q: W is 4, R2, and not 8, R3.
        int[] near = Bytes.text("abc-abc-abc-abc-abc-");
        PackFrames x = holding(near);
        x.pack(false);
        CHECKS.due("one sequence of abc- five times", x.wire(11), 1);
        // A match of 2 is none.
        CHECKS.due("matches of 2", typeOf(Bytes.text("abcdeabfgcdhij")), 0);
        // A match right behind a match has L 0.
        CHECKS.due("L 0", typeOf(Bytes.text("abcdefghijklmnopabcdefghghijklmn")), 2);
    }

    private static void tree() {
        // a 5, b 3, c 4: b and c are joined, then a: weights 2, 1, 1. Cells b 0, c 1, a 2 and 3.
        packs("aabbccacbaac", Bytes.text("aabbccacbaac"), Bytes.join(Bytes.row(90, 0, 12, 0, 77, 0),
            Bytes.row(12 << 2 | 2, 97, 2, 0x21, 3), Bytes.stream("1 1 00 00 01 01 1 01 00 1 1 01"), Bytes.row(0)));
    }

    private static void deepestTree() {
        // No three bytes twice. a 16, b 10, c 6, d 4, e to i 1 each. Joined: e f, g h, i ef, gh ief, and then
        // d, c, b and a one by one. LENGTHS 1, 2, 3, 4, 7, 7, 6, 6, 6, so the weights are 7 6 5 4 1 1 2 2 2.
        // Cells: e 0, f 1, g 2, h 4, i 6, d 8, c 16, b 32, a 64. By a search, LENGTH 8 takes 67 literals.
        String text = "baahaacaaeaadbafbdbcabacbbicbabbdadccagaa";
        String[] codes = {"1", "01", "001", "0001", "0000000", "0000001", "000001", "000010", "000011"};
        StringBuilder bits = new StringBuilder();
        for (char c : text.toCharArray()) {
            bits.append(codes[c - 'a']);
        }
        int[] stream = Bytes.stream(bits.toString());
        packs("a TREE of DEPTH 7", Bytes.text(text), Bytes.join(Bytes.row(90, 0, 41, 0, (9 + stream.length) << 3 | 5, 0),
            Bytes.row(41 << 2 | 2, 97, 8, 0x76, 0x54, 0x11, 0x22, stream.length), stream, Bytes.row(0)));
    }

    private static int kindOf(int[] content) {
        PackFrames x = holding(content);
        x.pack(false);
        CHECKS.due("TYPE", x.wire(4) >> 1 & 3, 2);
        return x.wire(6) & 3;
    }

    private static void treeOrPlain() {
        // Two bytes in turn at the edges of a span, in rows without a third byte the same.
        int[] sixteen = spread(16);
        int[] seventeen = spread(17);
        CHECKS.due("16 above the least", kindOf(sixteen), 2);
        CHECKS.due("17 above the least", kindOf(seventeen), 0);
        CHECKS.due("the greatest byte 255", kindOf(raised(sixteen, 255 - 16)), 2);
        CHECKS.due("the least byte 0", kindOf(raised(sixteen, 0)), 2);
    }

    /** Many literals of 0, 1, 2 and one of the span, and then a long match. */
    private static int[] spread(int span) {
        int[] head = {0, 0, 1, 1, 2, 2, 0, 2, 1, 0, 0, 2, 0, 0, 0, 1, 0, 1, 2, 1, 1, 1, span};
        return Bytes.join(head, head, head);
    }

    private static int[] raised(int[] row, int by) {
        return IntStream.of(row).map(b -> b + by).toArray();
    }

    private static void literalLimit() {
        int[] most = IntStream.range(0, 63).toArray();
        int[] more = IntStream.range(0, 64).toArray();
        CHECKS.due("63 literals and a match", typeOf(Bytes.join(most, IntStream.range(0, 57).toArray())), 2);
        CHECKS.due("64 literals and a match", typeOf(Bytes.join(more, IntStream.range(0, 56).toArray())), 0);
        CHECKS.due("80 literals and a match",
            typeOf(Bytes.join(IntStream.range(0, 80).toArray(), IntStream.range(0, 40).toArray())), 0);
    }

    private static void packsThatAreNotShorter() {
        // Both PACKS have nine bytes.
        CHECKS.due("ten bytes", typeOf(Bytes.text("abcdabcdab")), 2);
        CHECKS.due("nine bytes", typeOf(Bytes.text("abcdabcda")), 0);
        CHECKS.due("seven bytes", typeOf(Bytes.text("abcdabc")), 0);
    }

    private static void theCheck() {
        PackFrames x = holding(Bytes.text("abcdabcdab"));
        CHECKS.due("pack(true)", x.pack(true), 17);
        CHECKS.due("wire(1)", x.wire(1), 1);
        CHECKS.due("the CHECK", x.wire(15) + 256 * x.wire(16), x.mark());
        x.spoil(16, 1);
        CHECKS.due("unpack() with a wrong CHECK", x.unpack(), -1);
    }

    private static void full() {
        PackFrames x = holding(Bytes.times(9, 40));
        Bytes.putAll(x, Bytes.times(1, 234));
        CHECKS.due("pack(false) at 234", x.pack(false), PackFrames.FULL);
        CHECKS.due("wire(-1)", x.wire(-1), 234);
        CHECKS.due("wire(234)", x.wire(234), PackFrames.NONE);
        x.spoil(233, 0);
        x.wipe();
        Bytes.putAll(x, Bytes.times(1, 233));
        CHECKS.due("pack(true) at 233", x.pack(true), PackFrames.FULL);
        CHECKS.due("pack(false) at 233", x.pack(false), 7);
        CHECKS.due("wire(-1)", x.wire(-1), 240);
        CHECKS.due("wire(239)", x.wire(239), 9);
        x.clear();
        CHECKS.due("pack(false) at 240", x.pack(false), PackFrames.FULL);
        PackFrames y = holding(IntStream.range(0, 120).toArray());
        CHECKS.due("pack(true) of 120", y.pack(true), 128);
        CHECKS.due("pack(true) of 120 again", y.pack(true), PackFrames.FULL);
        CHECKS.due("wire(-1)", y.wire(-1), 128);
    }

    private static void addsBehind() {
        PackFrames x = holding(Bytes.text("abcdabcdab"));
        x.skip(1);
        CHECKS.due("pack(false)", x.pack(false), 15);
        String first = Bytes.wireOf(x);
        CHECKS.due("pack(false) again", x.pack(false), 15);
        CHECKS.due("the wire begins as before", Bytes.wireOf(x).startsWith(first.substring(0, first.length() - 1)), true);
        for (int i = 0; i < 15; i++) {
            CHECKS.due("byte " + i + " of both", x.wire(18 + i), x.wire(3 + i));
        }
        CHECKS.due("unpack() of both", x.unpack(), 20);
        CHECKS.due("CONTENT", Bytes.contentOf(x), Bytes.show(Bytes.text("abcdabcdababcdabcdab")));
    }
}
