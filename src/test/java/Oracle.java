import java.math.BigInteger;
import java.util.ArrayList;
import java.util.Collections;
import java.util.Comparator;
import java.util.HashMap;
import java.util.List;
import java.util.Map;
import java.util.TreeMap;

/**
 * What the document asks of pack and unpack, written a second time with lists, texts of bits and
 * exceptions, so that the program's answers can be set against it.
 */
final class Oracle {
    private static final class Refused extends RuntimeException {
        private static final long serialVersionUID = 1L;
    }

    private static final int[][] L_RANGES = {{0, 0}, {1, 0}, {2, 0}, {3, 0}, {4, 0}, {5, 0}, {6, 0}, {7, 0},
        {8, 1}, {10, 1}, {12, 2}, {16, 6}};
    private static final int[][] M_RANGES = {{3, 0}, {4, 0}, {5, 0}, {6, 0}, {7, 0}, {8, 0}, {9, 0}, {10, 0},
        {11, 1}, {13, 2}, {17, 3}, {25, 7}};
    private static final int[] USUAL_LM = {3, 2, 2, 1, 1, 1, 1, 1, 1, 1, 1, 1};
    private static final int[] USUAL_B = {2, 2, 2, 2, 2, 2, 2, 2};

    /** One state: code, WIDTH and BASE. */
    record State(int code, int width, int base) {
    }

    record Sequence(int literals, int value, int match) {
    }

    static List<State> table(int[] counts) {
        Map<Integer, Integer> codeAt = new TreeMap<>();
        int place = 0;
        for (int code = 0; code < counts.length; code++) {
            for (int i = 0; i < counts[code]; i++) {
                codeAt.put(place, code);
                place = (place + 13) % 16;
            }
        }
        Map<Integer, Integer> seen = new HashMap<>();
        List<State> states = new ArrayList<>();
        for (int code : codeAt.values()) {
            int x = counts[code] + seen.merge(code, 1, Integer::sum) - 1;
            int width = 0;
            int grown = x;
            while (grown < 16) {
                grown *= 2;
                width++;
            }
            states.add(new State(code, width, grown - 16));
        }
        return states;
    }

    static int mark(List<Integer> row) {
        BigInteger h = BigInteger.valueOf(row.size());
        BigInteger limit = BigInteger.ONE.shiftLeft(32);
        for (int b : row) {
            h = h.xor(BigInteger.valueOf(b)).multiply(BigInteger.valueOf(16777619)).mod(limit);
        }
        return h.xor(h.shiftRight(16)).intValue() & 0xFFFF;
    }

    // ---- unpacking ----

    /** A part of the wire from which bytes are taken. */
    private static final class Part {
        final List<Integer> bytes;
        int at;

        Part(List<Integer> bytes) {
            this.bytes = bytes;
        }

        int next() {
            if (at == bytes.size()) {
                throw new Refused();
            }
            return bytes.get(at++);
        }

        Part next(int n) {
            if (n > bytes.size() - at) {
                throw new Refused();
            }
            at += n;
            return new Part(bytes.subList(at - n, at));
        }

        Part rest() {
            return next(bytes.size() - at);
        }

        int[] halves(int n) {
            StringBuilder digits = new StringBuilder();
            for (int i = 0; i < (n + 1) / 2; i++) {
                digits.append(String.format("%02x", next()));
            }
            must(n % 2 == 0 || digits.charAt(n) == '0');
            int[] numbers = new int[n];
            for (int i = 0; i < n; i++) {
                numbers[i] = Character.digit(digits.charAt(i), 16);
            }
            return numbers;
        }

        Bits stream() {
            must(!bytes.isEmpty() && bytes.get(bytes.size() - 1) != 0);
            BigInteger number = BigInteger.ZERO;
            for (int i = bytes.size() - 1; i >= 0; i--) {
                number = number.multiply(BigInteger.valueOf(256)).add(BigInteger.valueOf(bytes.get(i)));
            }
            return new Bits(number.toString(2).substring(1));
        }
    }

    private static final class Bits {
        String left;

        Bits(String left) {
            this.left = left;
        }

        int next(int n) {
            must(left.length() >= n);
            int number = n == 0 ? 0 : Integer.parseInt(left.substring(0, n), 2);
            left = left.substring(n);
            return number;
        }

        void end() {
            must(left.isEmpty());
        }
    }

    private static void must(boolean so) {
        if (!so) {
            throw new Refused();
        }
    }

    /** The bits of each symbol. */
    static Map<String, Integer> codesOf(int first, int[] weights) {
        int sum = 0;
        for (int w : weights) {
            must(w <= 7);
            sum += (1 << w) >> 1;
        }
        must(sum > 0);
        int depth = 0;
        while (1 << depth <= sum) {
            depth++;
        }
        must(depth <= 7);
        int v = 1;
        while (1 << (v - 1) < (1 << depth) - sum) {
            v++;
        }
        must(1 << (v - 1) == (1 << depth) - sum);
        List<int[]> ordered = new ArrayList<>();
        for (int i = 0; i <= weights.length; i++) {
            int w = i < weights.length ? weights[i] : v;
            if (w > 0) {
                ordered.add(new int[] {w, first + i});
            }
        }
        ordered.sort(Comparator.<int[]>comparingInt(e -> e[0]).thenComparingInt(e -> e[1]));
        Map<String, Integer> codes = new TreeMap<>();
        int cell = 0;
        for (int[] e : ordered) {
            String bits = Integer.toBinaryString(1 << depth | cell).substring(1, 1 + depth + 1 - e[0]);
            codes.put(bits, e[1]);
            cell += 1 << (e[0] - 1);
        }
        return codes;
    }

    /** What one frame keeps while it is read. */
    private static final class Frame {
        final List<Integer> out = new ArrayList<>();
        final int size;
        Map<String, Integer> tree;
        List<State> l;
        List<State> b;
        List<State> m;
        int[] r = {1, 4, 8};

        Frame(int size) {
            this.size = size;
        }

        void add(int b) {
            must(out.size() < size);
            out.add(b);
        }

        void block(Part wire, int type, int length) {
            if (type == 0) {
                wire.next(length).bytes.forEach(this::add);
            } else if (type == 1) {
                int b = wire.next();
                for (int i = 0; i < length; i++) {
                    add(b);
                }
            } else {
                must(type == 2);
                unpackOne(wire.next(length));
            }
        }

        void unpackOne(Part part) {
            List<Integer> literals = new ArrayList<>(literals(part));
            List<Sequence> sequences = sequences(part);
            must(part.at == part.bytes.size());
            for (Sequence s : sequences) {
                for (int i = 0; i < s.literals; i++) {
                    must(!literals.isEmpty());
                    add(literals.remove(0));
                }
                int way = way(r, s);
                must(way != 0);
                for (int i = 0; i < s.match; i++) {
                    must(way <= out.size());
                    add(out.get(out.size() - way));
                }
            }
            literals.forEach(this::add);
        }

        List<Integer> literals(Part part) {
            int a = part.next();
            int count = a >> 2;
            switch (a & 3) {
                case 0:
                    return part.next(count).bytes;
                case 1:
                    return Collections.nCopies(count, part.next());
                case 2:
                    int first = part.next();
                    int n = part.next();
                    must(n >= 1 && n <= 16 && first + n <= 255);
                    tree = codesOf(first, part.halves(n));
                    break;
                default:
                    must(tree != null);
            }
            Bits bits = part.next(part.next()).stream();
            List<Integer> literals = new ArrayList<>();
            for (int i = 0; i < count; i++) {
                String code = "";
                while (!tree.containsKey(code)) {
                    code += bits.next(1);
                }
                literals.add(tree.get(code));
            }
            bits.end();
            return literals;
        }

        List<Sequence> sequences(Part part) {
            List<Sequence> sequences = new ArrayList<>();
            int count = part.next();
            if (count == 0) {
                return sequences;
            }
            int modes = part.next();
            must(modes % 4 == 0);
            l = tableOf(part, modes >> 6, USUAL_LM, l);
            b = tableOf(part, modes >> 4 & 3, USUAL_B, b);
            m = tableOf(part, modes >> 2 & 3, USUAL_LM, m);
            Bits bits = part.rest().stream();
            State atL = l.get(bits.next(l.size() == 1 ? 0 : 4));
            State atB = b.get(bits.next(b.size() == 1 ? 0 : 4));
            State atM = m.get(bits.next(m.size() == 1 ? 0 : 4));
            for (int i = 1; i <= count; i++) {
                int value = (1 << atB.code) + bits.next(atB.code);
                int match = M_RANGES[atM.code][0] + bits.next(M_RANGES[atM.code][1]);
                int literals = L_RANGES[atL.code][0] + bits.next(L_RANGES[atL.code][1]);
                sequences.add(new Sequence(literals, value, match));
                if (i < count) {
                    atL = l.get(atL.base + bits.next(atL.width));
                    atM = m.get(atM.base + bits.next(atM.width));
                    atB = b.get(atB.base + bits.next(atB.width));
                }
            }
            bits.end();
            return sequences;
        }

        List<State> tableOf(Part part, int mode, int[] usual, List<State> latest) {
            switch (mode) {
                case 0:
                    return table(usual);
                case 1:
                    int code = part.next();
                    must(code < usual.length);
                    return List.of(new State(code, 0, 0));
                case 2:
                    int n = part.next();
                    must(n >= 1 && n <= usual.length);
                    int[] counts = part.halves(n);
                    int sum = 0;
                    for (int c : counts) {
                        sum += c;
                    }
                    must(sum == 16);
                    return table(counts);
                default:
                    must(latest != null);
                    return latest;
            }
        }
    }

    /** The way back of a sequence; r becomes what it is behind it. */
    static int way(int[] r, Sequence s) {
        int r1 = r[0];
        int r2 = r[1];
        int r3 = r[2];
        int i = s.literals == 0 ? s.value + 1 : s.value;
        if (s.value > 3) {
            set(r, s.value - 3, r1, r2);
        } else if (i == 2) {
            set(r, r2, r1, r3);
        } else if (i == 3) {
            set(r, r3, r1, r2);
        } else if (i == 4) {
            set(r, r1 - 1, r1, r2);
        }
        return r[0];
    }

    private static void set(int[] r, int r1, int r2, int r3) {
        r[0] = r1;
        r[1] = r2;
        r[2] = r3;
    }

    /** The answer of unpack; content becomes the new CONTENT if it is not refused. */
    static int unpack(List<Integer> wire, List<Integer> content) {
        Part part = new Part(wire);
        List<Integer> all = new ArrayList<>();
        while (part.at < wire.size()) {
            int start = part.at;
            try {
                all.addAll(item(part));
                must(all.size() <= 120);
            } catch (Refused refused) {
                return -1 - start;
            }
        }
        content.clear();
        content.addAll(all);
        return all.size();
    }

    private static List<Integer> item(Part part) {
        int sign = part.next();
        if (sign == 83) {
            part.next(part.next());
            return List.of();
        }
        must(sign == 90);
        int check = part.next();
        must(check <= 1);
        int lower = part.next();
        Frame frame = new Frame(lower + 256 * part.next());
        int x;
        do {
            x = part.next();
            int y = part.next();
            frame.block(part, x >> 1 & 3, (x >> 3) + 32 * y);
        } while (x % 2 == 0);
        must(frame.out.size() == frame.size);
        if (check == 1) {
            int low = part.next();
            must(low + 256 * part.next() == mark(frame.out));
        }
        return frame.out;
    }

    /** The sequences in the first block of a frame, which must be a PACK. */
    static List<Sequence> sequencesOf(List<Integer> frame) {
        Frame reader = new Frame(120);
        Part part = packOf(frame);
        reader.literals(part);
        return reader.sequences(part);
    }

    /** The literals in the first block of a frame, which must be a PACK. */
    static List<Integer> literalsOf(List<Integer> frame) {
        return new Frame(120).literals(packOf(frame));
    }

    private static Part packOf(List<Integer> frame) {
        must((frame.get(4) >> 1 & 3) == 2);
        Part part = new Part(frame);
        part.next(6);
        return part.next((frame.get(4) >> 3) + 32 * frame.get(5));
    }

    // ---- packing ----

    static List<Integer> stream(String bits) {
        List<Integer> bytes = new ArrayList<>();
        for (int b : Bytes.stream(bits)) {
            bytes.add(b);
        }
        return bytes;
    }

    static String binary(int number, int bits) {
        return Integer.toBinaryString(1 << bits | number).substring(1);
    }

    static List<Integer> frame(List<Integer> content, boolean check) {
        List<Integer> body = new ArrayList<>();
        int type = 0;
        int length = content.size();
        if (!content.isEmpty() && Collections.frequency(content, content.get(0)) == content.size()) {
            type = 1;
            body.add(content.get(0));
        } else {
            List<Integer> packed = packed(content);
            if (packed != null && packed.size() < content.size()) {
                type = 2;
                body = packed;
                length = packed.size();
            } else {
                body = content;
            }
        }
        List<Integer> frame = new ArrayList<>(List.of(90, check ? 1 : 0, content.size(), 0,
            length % 32 * 8 + type * 2 + 1, length / 32));
        frame.addAll(body);
        if (check) {
            frame.add(mark(content) % 256);
            frame.add(mark(content) / 256);
        }
        return frame;
    }

    /** Null if there are too many literals. */
    private static List<Integer> packed(List<Integer> content) {
        List<Integer> literals = new ArrayList<>();
        List<Sequence> sequences = new ArrayList<>();
        int[] r = {1, 4, 8};
        int run = 0;
        int p = 0;
        while (p < content.size()) {
            int best = 0;
            int from = -1;
            for (int q = p - 1; q >= 0; q--) {
                int same = 0;
                while (p + same < content.size() && content.get(p + same).equals(content.get(q + same))) {
                    same++;
                }
                if (same > best) {
                    best = same;
                    from = q;
                }
            }
            if (best < 3) {
                literals.add(content.get(p++));
                run++;
            } else {
                sequences.add(sequence(run, p - from, best, r));
                run = 0;
                p += best;
            }
        }
        if (literals.size() > 63) {
            return null;
        }
        List<Integer> packed = literals(literals);
        packed.add(sequences.size());
        if (!sequences.isEmpty()) {
            packed.add(0);
            packed.addAll(stream(bitsOf(sequences)));
        }
        return packed;
    }

    private static Sequence sequence(int run, int way, int match, int[] r) {
        for (int value = 1; value <= 3; value++) {
            if (way(r.clone(), new Sequence(run, value, match)) == way) {
                way(r, new Sequence(run, value, match));
                return new Sequence(run, value, match);
            }
        }
        Sequence s = new Sequence(run, way + 3, match);
        way(r, s);
        return s;
    }

    private static int codeOf(int[][] ranges, int length) {
        for (int c = 0; c < ranges.length; c++) {
            if (length >= ranges[c][0] && length < ranges[c][0] + (1 << ranges[c][1])) {
                return c;
            }
        }
        throw new IllegalStateException("no code for " + length);
    }

    private static int wayCode(int value) {
        return Integer.toBinaryString(value).length() - 1;
    }

    /** The states of the codes, from the last one back. */
    private static int[] states(List<State> table, List<Integer> codes) {
        int[] states = new int[codes.size()];
        for (int i = states.length - 1; i >= 0; i--) {
            for (int s = 15; s >= 0; s--) {
                State state = table.get(s);
                boolean leads = i == states.length - 1
                    || states[i + 1] >= state.base && states[i + 1] < state.base + (1 << state.width);
                if (state.code == codes.get(i) && leads) {
                    states[i] = s;
                }
            }
        }
        return states;
    }

    private static String bitsOf(List<Sequence> sequences) {
        List<State> lm = table(USUAL_LM);
        List<State> b = table(USUAL_B);
        int[] atL = states(lm, sequences.stream().map(s -> codeOf(L_RANGES, s.literals)).toList());
        int[] atB = states(b, sequences.stream().map(s -> wayCode(s.value)).toList());
        int[] atM = states(lm, sequences.stream().map(s -> codeOf(M_RANGES, s.match)).toList());
        StringBuilder bits = new StringBuilder();
        bits.append(binary(atL[0], 4)).append(binary(atB[0], 4)).append(binary(atM[0], 4));
        for (int i = 0; i < atL.length; i++) {
            Sequence s = sequences.get(i);
            int c = wayCode(s.value);
            bits.append(binary(s.value - (1 << c), c));
            int[] m = M_RANGES[codeOf(M_RANGES, s.match)];
            bits.append(binary(s.match - m[0], m[1]));
            int[] l = L_RANGES[codeOf(L_RANGES, s.literals)];
            bits.append(binary(s.literals - l[0], l[1]));
            if (i + 1 < atL.length) {
                bits.append(binary(atL[i + 1] - lm.get(atL[i]).base, lm.get(atL[i]).width));
                bits.append(binary(atM[i + 1] - lm.get(atM[i]).base, lm.get(atM[i]).width));
                bits.append(binary(atB[i + 1] - b.get(atB[i]).base, b.get(atB[i]).width));
            }
        }
        return bits.toString();
    }

    private static List<Integer> literals(List<Integer> literals) {
        int n = literals.size();
        List<Integer> packed = new ArrayList<>();
        if (n >= 2 && Collections.frequency(literals, literals.get(0)) == n) {
            packed.add(n * 4 + 1);
            packed.add(literals.get(0));
            return packed;
        }
        List<Integer> treed = n < 2 ? null : treed(literals);
        if (treed != null && treed.size() < n) {
            packed.add(n * 4 + 2);
            packed.addAll(treed);
        } else {
            packed.add(n * 4);
            packed.addAll(literals);
        }
        return packed;
    }

    /** What has been joined (the bytes in it), its COUNT, and its place among equal ones. */
    private record Joined(List<Integer> bytes, int count, int order) {
    }

    static Map<Integer, Integer> lengths(List<Integer> literals) {
        Map<Integer, Integer> lengths = new TreeMap<>();
        literals.forEach(b -> lengths.put(b, 0));
        List<Joined> open = new ArrayList<>();
        lengths.keySet().forEach(b -> open.add(new Joined(List.of(b), Collections.frequency(literals, b), b)));
        int order = 1000;
        while (open.size() > 1) {
            open.sort(Comparator.comparingInt(Joined::count).thenComparingInt(Joined::order));
            Joined a = open.remove(0);
            Joined b = open.remove(0);
            List<Integer> both = new ArrayList<>(a.bytes);
            both.addAll(b.bytes);
            both.forEach(x -> lengths.merge(x, 1, Integer::sum));
            open.add(new Joined(both, a.count + b.count, order++));
        }
        return lengths;
    }

    /** TREE, s and STREAM; null if there can be no TREE. */
    private static List<Integer> treed(List<Integer> literals) {
        int first = Collections.min(literals);
        int n = Collections.max(literals) - first;
        Map<Integer, Integer> lengths = lengths(literals);
        int greatest = Collections.max(lengths.values());
        if (n > 16 || greatest > 7) {
            return null;
        }
        int[] weights = new int[n];
        for (int i = 0; i < n; i++) {
            weights[i] = lengths.containsKey(first + i) ? greatest + 1 - lengths.get(first + i) : 0;
        }
        Map<Integer, String> codes = new HashMap<>();
        codesOf(first, weights).forEach((bits, symbol) -> codes.put(symbol, bits));
        StringBuilder bits = new StringBuilder();
        literals.forEach(b -> bits.append(codes.get(b)));
        List<Integer> treed = new ArrayList<>(List.of(first, n));
        for (int i = 0; i < n; i += 2) {
            treed.add(weights[i] * 16 + (i + 1 < n ? weights[i + 1] : 0));
        }
        List<Integer> stream = stream(bits.toString());
        treed.add(stream.size());
        treed.addAll(stream);
        return treed;
    }
}
