/** Promises 1 to 8, 10 and 12: the two rows, what is added to them and told of them. */
public final class RowsTest {
    private static final Checks CHECKS = new Checks();

    public static void main(String[] args) {
        newObjectIsEmpty();
        writeAddsTheHighestByteFirst();
        writeKeepsItsLimits();
        clearEmptiesContentAlone();
        contentAnswersEveryPlace();
        putAddsTheHighestByteFirst();
        putKeepsItsLimits();
        wipeEmptiesTheWireAlone();
        wireAnswersEveryPlace();
        spoilTurnsBits();
        skipAddsBytes();
        skipKeepsItsLimits();
        markIsThatOfContent();
        objectsAreApart();
        CHECKS.end();
    }

    private static void newObjectIsEmpty() {
        PackFrames x = new PackFrames();
        CHECKS.due("content(-1) of a new object", x.content(-1), 0);
        CHECKS.due("content(0) of a new object", x.content(0), PackFrames.NONE);
        CHECKS.due("wire(-1) of a new object", x.wire(-1), 0);
        CHECKS.due("wire(0) of a new object", x.wire(0), PackFrames.NONE);
    }

    private static void writeAddsTheHighestByteFirst() {
        PackFrames x = new PackFrames();
        CHECKS.due("write(8, ..)", x.write(8, 0xFF01020304050680L), true);
        CHECKS.due("CONTENT", Bytes.contentOf(x), "[255, 1, 2, 3, 4, 5, 6, 128]");
        CHECKS.due("write(3, ..)", x.write(3, 0x7777777777ABCDEFL), true);
        CHECKS.due("CONTENT", Bytes.contentOf(x), "[255, 1, 2, 3, 4, 5, 6, 128, 171, 205, 239]");
        CHECKS.due("write(1, -1)", x.write(1, -1), true);
        CHECKS.due("content(11)", x.content(11), 255);
        CHECKS.due("wire(-1) behind write", x.wire(-1), 0);
    }

    private static void writeKeepsItsLimits() {
        PackFrames x = new PackFrames();
        for (int n : new int[] {0, 9, -1, Integer.MIN_VALUE, Integer.MAX_VALUE}) {
            CHECKS.due("write(" + n + ", 1)", x.write(n, 1), false);
        }
        CHECKS.due("content(-1)", x.content(-1), 0);
        for (int i = 0; i < 14; i++) {
            x.write(8, i);
        }
        CHECKS.due("write(5, ..) at 112", x.write(5, 5), true);
        CHECKS.due("write(4, ..) at 117", x.write(4, 5), false);
        CHECKS.due("content(-1)", x.content(-1), 117);
        CHECKS.due("content(117)", x.content(117), PackFrames.NONE);
        CHECKS.due("write(3, ..) at 117", x.write(3, 0x010203), true);
        CHECKS.due("content(119)", x.content(119), 3);
        CHECKS.due("write(1, ..) at 120", x.write(1, 5), false);
        CHECKS.due("content(-1)", x.content(-1), 120);
    }

    private static void clearEmptiesContentAlone() {
        PackFrames x = new PackFrames();
        x.clear();
        x.write(2, 0x0102);
        x.put(1, 7);
        x.clear();
        CHECKS.due("content(-1)", x.content(-1), 0);
        CHECKS.due("content(0)", x.content(0), PackFrames.NONE);
        CHECKS.due("wire(-1)", x.wire(-1), 1);
        x.write(1, 9);
        CHECKS.due("CONTENT", Bytes.contentOf(x), "[9]");
    }

    private static void contentAnswersEveryPlace() {
        PackFrames x = new PackFrames();
        x.write(2, 0x00FF);
        CHECKS.due("content(0)", x.content(0), 0);
        CHECKS.due("content(1)", x.content(1), 255);
        for (int k : new int[] {2, 119, 120, 121, -2, Integer.MIN_VALUE, Integer.MAX_VALUE}) {
            CHECKS.due("content(" + k + ")", x.content(k), PackFrames.NONE);
        }
        CHECKS.due("content(-1)", x.content(-1), 2);
    }

    private static void putAddsTheHighestByteFirst() {
        PackFrames x = new PackFrames();
        CHECKS.due("put(8, ..)", x.put(8, 0x8001020304050607L), true);
        CHECKS.due("put(2, ..)", x.put(2, 0x55555555AAFF00L), true);
        CHECKS.due("wire", Bytes.wireOf(x), "[128, 1, 2, 3, 4, 5, 6, 7, 255, 0]");
        CHECKS.due("content(-1) behind put", x.content(-1), 0);
    }

    private static void putKeepsItsLimits() {
        PackFrames x = new PackFrames();
        for (int n : new int[] {0, 9, -1, Integer.MIN_VALUE, Integer.MAX_VALUE}) {
            CHECKS.due("put(" + n + ", 1)", x.put(n, 1), false);
        }
        for (int i = 0; i < 29; i++) {
            CHECKS.due("put(8, ..)", x.put(8, i), true);
        }
        CHECKS.due("put(7, ..) at 232", x.put(7, 1), true);
        CHECKS.due("put(2, ..) at 239", x.put(2, 1), false);
        CHECKS.due("wire(-1)", x.wire(-1), 239);
        CHECKS.due("put(1, ..) at 239", x.put(1, 77), true);
        CHECKS.due("wire(239)", x.wire(239), 77);
        CHECKS.due("put(1, ..) at 240", x.put(1, 1), false);
        CHECKS.due("wire(-1)", x.wire(-1), 240);
    }

    private static void wipeEmptiesTheWireAlone() {
        PackFrames x = new PackFrames();
        x.wipe();
        x.put(2, 1);
        x.write(1, 7);
        x.wipe();
        CHECKS.due("wire(-1)", x.wire(-1), 0);
        CHECKS.due("wire(0)", x.wire(0), PackFrames.NONE);
        CHECKS.due("spoil(0, 1) of an empty wire", x.spoil(0, 1), false);
        CHECKS.due("content(-1)", x.content(-1), 1);
        x.put(1, 9);
        CHECKS.due("wire", Bytes.wireOf(x), "[9]");
    }

    private static void wireAnswersEveryPlace() {
        PackFrames x = new PackFrames();
        x.put(2, 0xFF00);
        CHECKS.due("wire(0)", x.wire(0), 255);
        CHECKS.due("wire(1)", x.wire(1), 0);
        for (int k : new int[] {2, 239, 240, 241, -2, Integer.MIN_VALUE, Integer.MAX_VALUE}) {
            CHECKS.due("wire(" + k + ")", x.wire(k), PackFrames.NONE);
        }
        CHECKS.due("wire(-1)", x.wire(-1), 2);
    }

    private static void spoilTurnsBits() {
        PackFrames x = new PackFrames();
        x.put(3, 0x0F00FF);
        CHECKS.due("spoil(0, 0x33)", x.spoil(0, 0x33), true);
        CHECKS.due("spoil(1, 0x1FF80)", x.spoil(1, 0x1FF80), true);
        CHECKS.due("spoil(2, -1)", x.spoil(2, -1), true);
        CHECKS.due("wire", Bytes.wireOf(x), "[60, 128, 0]");
        CHECKS.due("spoil(0, 256)", x.spoil(0, 256), true);
        CHECKS.due("spoil(0, 0)", x.spoil(0, 0), true);
        for (int k : new int[] {3, 240, -1, -2, Integer.MIN_VALUE, Integer.MAX_VALUE}) {
            CHECKS.due("spoil(" + k + ", 1)", x.spoil(k, 1), false);
        }
        CHECKS.due("wire", Bytes.wireOf(x), "[60, 128, 0]");
    }

    private static void skipAddsBytes() {
        PackFrames x = new PackFrames();
        x.put(8, -1);
        x.wipe();
        CHECKS.due("skip(3)", x.skip(3), true);
        CHECKS.due("skip(0)", x.skip(0), true);
        CHECKS.due("wire", Bytes.wireOf(x), "[83, 3, 0, 0, 0, 83, 0]");
        CHECKS.due("skip(20)", x.skip(20), true);
        CHECKS.due("wire(-1)", x.wire(-1), 29);
        CHECKS.due("wire(8)", x.wire(8), 20);
        CHECKS.due("unpack() of skips", x.unpack(), 0);
    }

    private static void skipKeepsItsLimits() {
        PackFrames x = new PackFrames();
        for (int n : new int[] {21, -1, Integer.MIN_VALUE, Integer.MAX_VALUE}) {
            CHECKS.due("skip(" + n + ")", x.skip(n), false);
        }
        CHECKS.due("wire(-1)", x.wire(-1), 0);
        for (int i = 0; i < 10; i++) {
            CHECKS.due("skip(20)", x.skip(20), true);
        }
        CHECKS.due("skip(19) at 220", x.skip(19), false);
        CHECKS.due("wire(-1)", x.wire(-1), 220);
        CHECKS.due("skip(18) at 220", x.skip(18), true);
        CHECKS.due("skip(0) at 240", x.skip(0), false);
        x.wipe();
        for (int i = 0; i < 29; i++) {
            x.put(8, 0);
        }
        x.put(7, 0);
        CHECKS.due("skip(0) at 239", x.skip(0), false);
        CHECKS.due("wire(-1)", x.wire(-1), 239);
    }

    private static void markIsThatOfContent() {
        PackFrames x = new PackFrames();
        CHECKS.due("mark() of nothing", x.mark(), 0);
        x.write(1, 1);
        // h is (1 ^ 1) * 16777619.
        CHECKS.due("mark() of 1", x.mark(), 0);
        x.clear();
        x.write(1, 0);
        // h is 16777619, 0x01000193: 0x0193 ^ 0x0100.
        CHECKS.due("mark() of 0", x.mark(), 0x0093);
        x.write(8, 0x80FF7F0000FE0102L);
        CHECKS.due("mark() of nine bytes", x.mark(), markByLong(Bytes.row(0, 128, 255, 127, 0, 0, 254, 1, 2)));
        CHECKS.due("content(-1) behind mark", x.content(-1), 9);
    }

    private static long markByLong(int[] row) {
        long h = row.length;
        for (int b : row) {
            h = (h ^ b) * 16777619L % 4294967296L;
        }
        return (h ^ (h / 65536)) % 65536;
    }

    private static void objectsAreApart() {
        PackFrames x = new PackFrames();
        PackFrames y = new PackFrames();
        x.write(3, 0x010101);
        x.pack(true);
        CHECKS.due("content(-1) of another", y.content(-1), 0);
        CHECKS.due("wire(-1) of another", y.wire(-1), 0);
        CHECKS.due("unpack() of another", y.unpack(), 0);
    }
}
