/**
 * Asks unpack about wires that are good or refused: on a new object, and on one that has unpacked others
 * before, where they end with the last byte of a full wire.
 */
final class Wires {
    // An object is used for at most 512 calls, and one wire takes 35 at most.
    private static final int MOST_CALLS = 512 - 35;

    private final Checks checks;
    private PackFrames used = new PackFrames();
    private int[] held = {};
    private int calls;

    Wires(Checks checks) {
        this.checks = checks;
    }

    /** The wire is good and makes these bytes. */
    void good(String what, int[] wire, int[] out) {
        PackFrames x = holding(wire);
        checks.due(what, x.unpack(), out.length);
        checks.due(what + ", CONTENT", Bytes.contentOf(x), Bytes.show(out));
        checks.due(what + ", wire", Bytes.wireOf(x), Bytes.show(wire));
        if (wire.length <= 238) {
            unpackAtTheEnd(what, wire, out.length, out);
        }
    }

    /** The wire is refused at this place. */
    void bad(String what, int place, int[] wire) {
        PackFrames x = holding(wire);
        checks.due(what, x.unpack(), -1 - place);
        checks.due(what + ", CONTENT", Bytes.contentOf(x), "[9, 7]");
        checks.due(what + ", wire", Bytes.wireOf(x), Bytes.show(wire));
        if (wire.length <= 238) {
            unpackAtTheEnd(what, wire, -1 - place - (240 - wire.length), held);
        }
    }

    private static PackFrames holding(int[] wire) {
        PackFrames x = new PackFrames();
        x.write(2, 0x0907);
        Bytes.putAll(x, wire);
        return x;
    }

    private void unpackAtTheEnd(String what, int[] wire, int answer, int[] content) {
        if (calls > MOST_CALLS) {
            used = new PackFrames();
            calls = 0;
            content = answer < 0 ? Bytes.row() : content;
        }
        used.wipe();
        int[] all = atTheEnd(wire);
        for (int i = 0; i < 240; i += 8) {
            long eight = 0;
            for (int k = i; k < i + 8; k++) {
                eight = eight << 8 | all[k];
            }
            used.put(8, eight);
        }
        checks.due(what + ", at the end of a full wire", used.unpack(), answer);
        checks.due(what + ", at the end of a full wire, content(-1)", used.content(-1), content.length);
        checks.due(what + ", at the end of a full wire, mark()", used.mark(), markOf(content));
        calls += 34;
        held = content;
    }

    private static int markOf(int[] row) {
        return Oracle.mark(java.util.Arrays.stream(row).boxed().toList());
    }

    /** One frame of one PACK. */
    void goodPack(String what, int[] out, int[]... parts) {
        good(what, Bytes.frame(out.length, Bytes.packBlock(true, parts)), out);
    }

    void badPack(String what, int size, int[]... parts) {
        bad(what, 0, Bytes.frame(size, Bytes.packBlock(true, parts)));
    }

    /** A frame of one run. */
    static int[] run(int b, int n) {
        return Bytes.frame(n, Bytes.block(1, true, n, b));
    }

    /** A SKIP ahead of these bytes, so that they end where a full wire ends. */
    private static int[] atTheEnd(int[] bytes) {
        int n = 238 - bytes.length;
        return Bytes.join(Bytes.row(83, n), Bytes.times(0, n), bytes);
    }

    /** LITERALS with a TREE and a STREAM. */
    static int[] treed(int count, int[] tree, String bits) {
        int[] stream = Bytes.stream(bits);
        return Bytes.join(Bytes.row(count << 2 | 2), tree, Bytes.row(stream.length), stream);
    }

    static String binary(int number, int bits) {
        StringBuilder text = new StringBuilder();
        for (int i = bits - 1; i >= 0; i--) {
            text.append(number >> i & 1);
        }
        return text.toString();
    }
}
