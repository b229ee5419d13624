import java.util.Arrays;
import java.util.Random;

/** Promises 1 to 8, 10 and 12, sentence by sentence: the two rows, what is added to them and told of them. */
public final class RowsTest {
    private static final Checks CHECKS = new Checks();
    private static final int[] NOT_1_TO_8 = {0, -1, -2, -8, -255, 9, 10, 16, 120, 240, 256, 257,
        Integer.MIN_VALUE, Integer.MIN_VALUE + 1, Integer.MAX_VALUE};
    private static final int[] FAR_PLACES = {-2, -3, -240, 120, 121, 240, 241, 256,
        Integer.MIN_VALUE, Integer.MIN_VALUE + 1, Integer.MAX_VALUE};

    public static void main(String[] args) {
        rowsAndTheirBytes();
        newObject();
        writeAdds();
        writeRefuses();
        clearEmpties();
        contentTells();
        putAdds();
        putRefuses();
        wipeEmpties();
        wireTells();
        spoilTurns();
        spoilRefuses();
        skipAdds();
        skipRefuses();
        markOfContent();
        markWraps();
        calls512();
        objectsAreApart();
        CHECKS.end();
    }

    private static PackFrames with(int contentBytes, int wireBytes) {
        PackFrames x = new PackFrames();
        for (int i = 0; i < contentBytes; i++) {
            x.write(1, i * 7 + 1);
        }
        for (int i = 0; i < wireBytes; i++) {
            x.put(1, i * 5 + 3);
        }
        return x;
    }

    private static String both(PackFrames x) {
        return Bytes.contentOf(x) + " " + Bytes.wireOf(x);
    }

    private static void rowsAndTheirBytes() {
        CHECKS.words("CONTENT is a row of at most 120 bytes (0 .. 255), the WIRE one of at most 240, both empty "
            + "at first.");
        PackFrames x = new PackFrames();
        CHECKS.due("both at first", both(x), "[] []");
        for (int b = 0; b < 256; b++) {
            x.clear();
            x.wipe();
            x.write(1, b);
            x.put(1, b);
            CHECKS.due("content(0)", x.content(0), b);
            CHECKS.due("wire(0)", x.wire(0), b);
        }
        x = with(130, 250);
        CHECKS.due("content(-1) when full", x.content(-1), 120);
        CHECKS.due("wire(-1) when full", x.wire(-1), 240);
    }

    private static void newObject() {
        CHECKS.words("`PackFrames()`: CONTENT and WIRE empty.");
        PackFrames x = new PackFrames();
        CHECKS.due("content(-1)", x.content(-1), 0);
        CHECKS.due("content(0)", x.content(0), PackFrames.NONE);
        CHECKS.due("wire(-1)", x.wire(-1), 0);
        CHECKS.due("wire(0)", x.wire(0), PackFrames.NONE);
        CHECKS.due("spoil(0, 1)", x.spoil(0, 1), false);
        CHECKS.due("mark()", x.mark(), 0);
        CHECKS.due("unpack()", x.unpack(), 0);
        CHECKS.due("both", both(x), "[] []");
    }

    /** The n lowest bytes, found by another way than the program's. */
    private static String lowest(int n, long bytes) {
        String hex = String.format("%016x", bytes);
        int[] row = new int[n];
        for (int i = 0; i < n; i++) {
            int at = 16 - 2 * n + 2 * i;
            row[i] = Integer.parseInt(hex.substring(at, at + 2), 16);
        }
        return Bytes.show(row);
    }

    private static void writeAdds() {
        CHECKS.words("The n lowest bytes of bytes, the highest of them first, are added to CONTENT: true;");
        for (long bytes : new long[] {0, -1, 0xFF01020304050680L, 0x0123456789ABCDEFL, Long.MIN_VALUE, Long.MAX_VALUE}) {
            for (int n = 1; n <= 8; n++) {
                PackFrames x = new PackFrames();
                CHECKS.due("write(" + n + ", " + bytes + ")", x.write(n, bytes), true);
                CHECKS.due("both", both(x), lowest(n, bytes) + " []");
            }
        }
        PackFrames x = new PackFrames();
        x.write(3, 0x7777777777ABCDEFL);
        x.write(1, -1);
        x.write(2, 0x0102);
        CHECKS.due("both", both(x), "[171, 205, 239, 255, 1, 2] []");
    }

    private static void writeRefuses() {
        CHECKS.words("are added to CONTENT: true; false, changing nothing, if n is not 1 .. 8 or there would be "
            + "more than 120.");
        PackFrames x = with(3, 2);
        String before = both(x);
        for (int n : NOT_1_TO_8) {
            CHECKS.due("write(" + n + ", -1)", x.write(n, -1), false);
            CHECKS.due("both", both(x), before);
        }
        for (int n = 1; n <= 8; n++) {
            x = with(121 - n, 2);
            before = both(x);
            CHECKS.due("write(" + n + ", -1) for 121", x.write(n, -1), false);
            CHECKS.due("both", both(x), before);
            x = with(120 - n, 2);
            CHECKS.due("write(" + n + ", -1) for 120", x.write(n, -1), true);
            CHECKS.due("content(-1)", x.content(-1), 120);
            CHECKS.due("content(119)", x.content(119), 255);
            CHECKS.due("content(119 - n)", x.content(119 - n), with(120, 0).content(119 - n));
            before = both(x);
            CHECKS.due("write(" + n + ", 0) when full", x.write(n, 0), false);
            CHECKS.due("both", both(x), before);
        }
    }

    private static void clearEmpties() {
        CHECKS.words("`void clear()`: CONTENT becomes empty.");
        PackFrames x = with(0, 3);
        x.clear();
        CHECKS.due("both, empty before", both(x), "[] [3, 8, 13]");
        x = with(120, 3);
        x.clear();
        CHECKS.due("both, full before", both(x), "[] [3, 8, 13]");
        CHECKS.due("content(0)", x.content(0), PackFrames.NONE);
        CHECKS.due("content(119)", x.content(119), PackFrames.NONE);
        CHECKS.due("mark()", x.mark(), 0);
        x.write(1, 9);
        CHECKS.due("both", both(x), "[9] [3, 8, 13]");
        for (int i = 0; i < 119; i++) {
            CHECKS.due("write(1, 1) behind clear", x.write(1, 1), true);
        }
        CHECKS.due("write(1, 1) when full again", x.write(1, 1), false);
    }

    private static void contentTells() {
        CHECKS.words("Byte k of CONTENT; how many there are, if k is -1; NONE if there is none such.");
        for (int n : new int[] {0, 1, 2, 119, 120}) {
            PackFrames x = with(n, 9);
            CHECKS.due("content(-1) of " + n, x.content(-1), n);
            for (int k = 0; k < n; k++) {
                CHECKS.due("content(" + k + ")", x.content(k), (k * 7 + 1) & 255);
            }
            CHECKS.due("content(" + n + ")", x.content(n), PackFrames.NONE);
            for (int k : FAR_PLACES) {
                CHECKS.due("content(" + k + ")", x.content(k), PackFrames.NONE);
            }
        }
        PackFrames x = with(120, 0);
        x.clear();
        x.write(2, 0x0101);
        CHECKS.due("content(2), where a byte stood before", x.content(2), PackFrames.NONE);
    }

    private static void putAdds() {
        CHECKS.words("The n lowest bytes of bytes, the highest of them first, are added to the wire: true;");
        for (long bytes : new long[] {0, -1, 0x8001020304050607L, 0xFEDCBA9876543210L, Long.MIN_VALUE, Long.MAX_VALUE}) {
            for (int n = 1; n <= 8; n++) {
                PackFrames x = new PackFrames();
                CHECKS.due("put(" + n + ", " + bytes + ")", x.put(n, bytes), true);
                CHECKS.due("both", both(x), "[] " + lowest(n, bytes));
            }
        }
        PackFrames x = new PackFrames();
        x.put(2, 0x55555555AAFF00L);
        x.put(1, 7);
        CHECKS.due("both", both(x), "[] [255, 0, 7]");
    }

    private static void putRefuses() {
        CHECKS.words("are added to the wire: true; false, changing nothing, if n is not 1 .. 8 or there would "
            + "be more than 240.");
        PackFrames x = with(3, 2);
        String before = both(x);
        for (int n : NOT_1_TO_8) {
            CHECKS.due("put(" + n + ", -1)", x.put(n, -1), false);
            CHECKS.due("both", both(x), before);
        }
        for (int n = 1; n <= 8; n++) {
            x = with(2, 241 - n);
            before = both(x);
            CHECKS.due("put(" + n + ", -1) for 241", x.put(n, -1), false);
            CHECKS.due("both", both(x), before);
            x = with(2, 240 - n);
            CHECKS.due("put(" + n + ", -1) for 240", x.put(n, -1), true);
            CHECKS.due("wire(-1)", x.wire(-1), 240);
            CHECKS.due("wire(239)", x.wire(239), 255);
            CHECKS.due("wire(239 - n)", x.wire(239 - n), with(0, 240).wire(239 - n));
            before = both(x);
            CHECKS.due("put(" + n + ", 0) when full", x.put(n, 0), false);
            CHECKS.due("both", both(x), before);
        }
    }

    private static void wipeEmpties() {
        CHECKS.words("`void wipe()`: The wire becomes empty.");
        PackFrames x = with(3, 0);
        x.wipe();
        CHECKS.due("both, empty before", both(x), "[1, 8, 15] []");
        x = with(3, 240);
        x.wipe();
        CHECKS.due("both, full before", both(x), "[1, 8, 15] []");
        CHECKS.due("wire(0)", x.wire(0), PackFrames.NONE);
        CHECKS.due("wire(239)", x.wire(239), PackFrames.NONE);
        CHECKS.due("spoil(0, 1)", x.spoil(0, 1), false);
        x.put(1, 9);
        CHECKS.due("both", both(x), "[1, 8, 15] [9]");
        for (int i = 0; i < 239; i++) {
            CHECKS.due("put(1, 1) behind wipe", x.put(1, 1), true);
        }
        CHECKS.due("put(1, 1) when full again", x.put(1, 1), false);
    }

    private static void wireTells() {
        CHECKS.words("Byte k of the wire; how many there are, if k is -1; NONE if there is none such.");
        for (int n : new int[] {0, 1, 2, 119, 120}) {
            PackFrames x = with(9, n);
            CHECKS.due("wire(-1) of " + n, x.wire(-1), n);
            CHECKS.due("wire(" + n + ")", x.wire(n), PackFrames.NONE);
            for (int k : FAR_PLACES) {
                CHECKS.due("wire(" + k + ")", x.wire(k), PackFrames.NONE);
            }
        }
        for (int n : new int[] {239, 240}) {
            PackFrames x = with(9, n);
            CHECKS.due("wire(-1) of " + n, x.wire(-1), n);
            for (int k = 0; k < n; k++) {
                CHECKS.due("wire(" + k + ")", x.wire(k), (k * 5 + 3) & 255);
            }
            for (int k : new int[] {n, 241, 256, -2, Integer.MIN_VALUE, Integer.MAX_VALUE}) {
                CHECKS.due("wire(" + k + ")", x.wire(k), PackFrames.NONE);
            }
        }
        PackFrames x = with(0, 240);
        x.wipe();
        x.put(2, 0x0101);
        CHECKS.due("wire(2), where a byte stood before", x.wire(2), PackFrames.NONE);
    }

    private static void spoilTurns() {
        CHECKS.words("Byte k of the wire becomes itself ^ (bits & 255): true;");
        PackFrames x = new PackFrames();
        x.put(3, 0x0F00FF);
        CHECKS.due("spoil(0, 0x33)", x.spoil(0, 0x33), true);
        CHECKS.due("spoil(1, 0x1FF80)", x.spoil(1, 0x1FF80), true);
        CHECKS.due("spoil(2, -1)", x.spoil(2, -1), true);
        CHECKS.due("both", both(x), "[] [60, 128, 0]");
        for (int bits : new int[] {0, 256, -256, Integer.MIN_VALUE}) {
            CHECKS.due("spoil(0, " + bits + ")", x.spoil(0, bits), true);
        }
        CHECKS.due("both, no lower bit turned", both(x), "[] [60, 128, 0]");
        x.spoil(1, Integer.MAX_VALUE);
        CHECKS.due("both", both(x), "[] [60, 127, 0]");
        x = with(1, 240);
        int last = x.wire(239);
        CHECKS.due("spoil(239, 255) of a full wire", x.spoil(239, 255), true);
        CHECKS.due("wire(239)", x.wire(239), 255 - last);
        CHECKS.due("wire(238)", x.wire(238), with(0, 240).wire(238));
    }

    private static void spoilRefuses() {
        CHECKS.words("becomes itself ^ (bits & 255): true; false if there is none such.");
        for (int n : new int[] {0, 1, 119, 240}) {
            PackFrames x = with(120, n);
            String before = both(x);
            CHECKS.due("spoil(" + n + ", 1)", x.spoil(n, 1), false);
            for (int k : new int[] {-1, -2, 240, 241, 256, Integer.MIN_VALUE, Integer.MAX_VALUE}) {
                CHECKS.due("spoil(" + k + ", 1)", x.spoil(k, 1), false);
            }
            CHECKS.due("both", both(x), before);
        }
        PackFrames x = with(0, 9);
        x.wipe();
        x.put(1, 7);
        CHECKS.due("spoil(1, 255), where a byte stood before", x.spoil(1, 255), false);
    }

    private static void skipAdds() {
        CHECKS.words("A SKIP of n bytes 0 is added to the wire: true;");
        for (int n = 0; n <= 20; n++) {
            PackFrames x = with(2, 240);
            x.wipe();
            x.put(1, 7);
            CHECKS.due("skip(" + n + ")", x.skip(n), true);
            CHECKS.due("both", both(x), "[1, 8] " + Bytes.show(Bytes.join(Bytes.row(7, 83, n), Bytes.times(0, n))));
            x.spoil(0, 7 ^ 83);
            // 83, 83 and so on: the first SKIP's n is 83 then, more than there is.
            CHECKS.due("unpack() behind spoil", x.unpack(), -1);
        }
        PackFrames x = with(2, 0);
        x.skip(20);
        x.skip(0);
        x.skip(1);
        CHECKS.due("wire(-1)", x.wire(-1), 22 + 2 + 3);
        CHECKS.due("unpack() of SKIPS", x.unpack(), 0);
        CHECKS.due("content(-1)", x.content(-1), 0);
    }

    private static void skipRefuses() {
        CHECKS.words("false if n is not 0 .. 20 or there would be more than 240.");
        PackFrames x = with(2, 3);
        String before = both(x);
        for (int n : new int[] {-1, -2, -20, 21, 22, 83, 238, 255, 256, Integer.MIN_VALUE, Integer.MAX_VALUE,
            Integer.MAX_VALUE - 1, Integer.MAX_VALUE - 2}) {
            CHECKS.due("skip(" + n + ")", x.skip(n), false);
            CHECKS.due("both", both(x), before);
        }
        for (int n = 0; n <= 20; n++) {
            x = with(2, 239 - n);
            before = both(x);
            CHECKS.due("skip(" + n + ") for 241", x.skip(n), false);
            CHECKS.due("both", both(x), before);
            x = with(2, 238 - n);
            CHECKS.due("skip(" + n + ") for 240", x.skip(n), true);
            CHECKS.due("wire(-1)", x.wire(-1), 240);
            CHECKS.due("wire(239)", x.wire(239), 0);
            before = both(x);
            CHECKS.due("skip(" + n + ") when full", x.skip(n), false);
            CHECKS.due("both", both(x), before);
        }
    }

    private static void markOfContent() {
        CHECKS.words("`int mark()`: The MARK of CONTENT.");
        PackFrames x = with(0, 9);
        CHECKS.due("mark() of nothing", x.mark(), 0);
        x.write(1, 1);
        // h is (1 ^ 1) * 16777619.
        CHECKS.due("mark() of 1", x.mark(), 0);
        x.clear();
        x.write(1, 0);
        // h is 16777619, 0x01000193: 0x0193 ^ 0x0100.
        CHECKS.due("mark() of 0", x.mark(), 0x0093);
        x.clear();
        x.write(2, 0x0203);
        // (2 ^ 2) * 16777619 is 0; (0 ^ 3) * 16777619 is 0x030004B9: 0x04B9 ^ 0x0300.
        CHECKS.due("mark() of 2, 3", x.mark(), 0x07B9);
        CHECKS.due("CONTENT behind mark", Bytes.contentOf(x), "[2, 3]");
        x = with(120, 0);
        x.clear();
        CHECKS.due("mark() of nothing, where bytes stood before", x.mark(), 0);
    }

    private static long markByLong(int[] row) {
        long h = row.length;
        for (int b : row) {
            h = (h ^ b) * 16777619L % 4294967296L;
        }
        return (h ^ (h / 65536)) % 65536;
    }

    private static void markWraps() {
        CHECKS.words("h begins with n; for each byte b h becomes (h ^ b) * 16777619, with the lowest 32 bits; "
            + "it is the lowest 16 bits of h ^ (h >>> 16).");
        Random random = new Random(12);
        for (int n = 0; n <= 120; n++) {
            int[] row = random.ints(n, 0, 256).toArray();
            PackFrames x = new PackFrames();
            Bytes.writeAll(x, row);
            CHECKS.due("mark() of " + Arrays.toString(row), x.mark(), markByLong(row));
        }
        for (int b : new int[] {0, 1, 127, 128, 255}) {
            PackFrames x = new PackFrames();
            Bytes.writeAll(x, Bytes.times(b, 120));
            CHECKS.due("mark() of 120 times " + b, x.mark(), markByLong(Bytes.times(b, 120)));
        }
    }

    private static void calls512() {
        CHECKS.words("An object is used for at most 512 calls after it has been made");
        PackFrames x = new PackFrames();
        // 73 rounds of seven calls, and then the last one.
        for (int i = 0; i < 73; i++) {
            x.clear();
            x.write(8, 0x6162636162636162L);
            x.write(8, 0x6362636465616263L);
            x.wipe();
            x.pack(true);
            CHECKS.due("unpack() of call " + (7 * i + 6), x.unpack(), 16);
            CHECKS.due("content(15) of call " + (7 * i + 7), x.content(15), 0x63);
        }
        CHECKS.due("mark() of call 512", x.mark(), x.wire(x.wire(-1) - 2) + 256 * x.wire(x.wire(-1) - 1));
    }

    private static void objectsAreApart() {
        CHECKS.words("both empty at first");
        PackFrames x = new PackFrames();
        PackFrames y = new PackFrames();
        x.write(3, 0x010101);
        x.pack(true);
        CHECKS.due("both of another", both(y), "[] []");
        CHECKS.due("unpack() of another", y.unpack(), 0);
        CHECKS.due("both of one made later", both(new PackFrames()), "[] []");
    }
}
