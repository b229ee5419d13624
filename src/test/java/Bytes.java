import java.math.BigInteger;
import java.nio.charset.StandardCharsets;
import java.util.ArrayList;
import java.util.List;

/** Rows of bytes for the tests, and their way into and out of an object. */
final class Bytes {
    private Bytes() {
    }

    static int[] row(int... bytes) {
        return bytes;
    }

    static int[] text(String text) {
        byte[] latin = text.getBytes(StandardCharsets.ISO_8859_1);
        int[] row = new int[latin.length];
        for (int i = 0; i < row.length; i++) {
            row[i] = latin[i] & 255;
        }
        return row;
    }

    static int[] join(int[]... rows) {
        List<Integer> all = new ArrayList<>();
        for (int[] row : rows) {
            for (int b : row) {
                all.add(b);
            }
        }
        return array(all);
    }

    static int[] times(int b, int n) {
        int[] row = new int[n];
        java.util.Arrays.fill(row, b);
        return row;
    }

    static int[] array(List<Integer> list) {
        return list.stream().mapToInt(Integer::intValue).toArray();
    }

    /** The STREAM of a text of 0s and 1s (blanks say nothing). */
    static int[] stream(String bits) {
        BigInteger number = new BigInteger("1" + bits.replace(" ", ""), 2);
        List<Integer> bytes = new ArrayList<>();
        while (number.signum() != 0) {
            bytes.add(number.intValue() & 255);
            number = number.shiftRight(8);
        }
        return array(bytes);
    }

    static int[] block(int type, boolean last, int length, int... rest) {
        int[] head = {(length & 31) << 3 | type << 1 | (last ? 1 : 0), length >> 5};
        return join(head, rest);
    }

    static int[] packBlock(boolean last, int[]... parts) {
        int[] body = join(parts);
        return block(2, last, body.length, body);
    }

    static int[] frame(int size, int[]... blocks) {
        return join(row(90, 0, size & 255, size >> 8), join(blocks));
    }

    static void putAll(PackFrames x, int[] bytes) {
        for (int b : bytes) {
            if (!x.put(1, b)) {
                throw new IllegalStateException("the wire has no room");
            }
        }
    }

    static void writeAll(PackFrames x, int[] bytes) {
        for (int b : bytes) {
            if (!x.write(1, b)) {
                throw new IllegalStateException("CONTENT has no room");
            }
        }
    }

    static String wireOf(PackFrames x) {
        int[] row = new int[x.wire(-1)];
        for (int i = 0; i < row.length; i++) {
            row[i] = x.wire(i);
        }
        return show(row);
    }

    static String contentOf(PackFrames x) {
        int[] row = new int[x.content(-1)];
        for (int i = 0; i < row.length; i++) {
            row[i] = x.content(i);
        }
        return show(row);
    }

    static String show(int[] row) {
        return java.util.Arrays.toString(row);
    }
}
