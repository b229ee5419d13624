import java.util.ArrayList;
import java.util.Arrays;
import java.util.List;
import java.util.Map;
import java.util.Random;
import java.util.TreeMap;

/** Makes frames of all kinds of blocks, with trees and tables of all kinds, most of them good. */
final class FrameMaker {
    private static final int[] L_LEAST = {0, 1, 2, 3, 4, 5, 6, 7, 8, 10, 12, 16};
    private static final int[] L_BITS = {0, 0, 0, 0, 0, 0, 0, 0, 1, 1, 2, 6};
    private static final int[] M_LEAST = {3, 4, 5, 6, 7, 8, 9, 10, 11, 13, 17, 25};
    private static final int[] M_BITS = {0, 0, 0, 0, 0, 0, 0, 0, 1, 2, 3, 7};

    private final Random random;
    private final List<Integer> out = new ArrayList<>();
    private final int[] r = {1, 4, 8};
    private int room;
    private Map<String, Integer> tree;
    private List<List<Oracle.State>> tables;

    FrameMaker(Random random) {
        this.random = random;
    }

    private boolean chance(int percent) {
        return random.nextInt(100) < percent;
    }

    /** A frame whose OUT has at most so many bytes. */
    List<Integer> make(int most) {
        out.clear();
        r[0] = 1;
        r[1] = 4;
        r[2] = 8;
        room = most;
        tree = null;
        tables = null;
        List<Integer> blocks = new ArrayList<>();
        int count = 1 + random.nextInt(4);
        for (int i = 1; i <= count; i++) {
            addBlock(blocks, i == count);
        }
        boolean check = chance(40);
        List<Integer> frame = new ArrayList<>(List.of(90, check ? 1 : 0, out.size() & 255, out.size() >> 8));
        frame.addAll(blocks);
        if (check) {
            frame.add(Oracle.mark(out) & 255);
            frame.add(Oracle.mark(out) >> 8);
        }
        return frame;
    }

    List<Integer> madeOut() {
        return out;
    }

    private void addBlock(List<Integer> blocks, boolean last) {
        int kind = random.nextInt(10);
        if (kind < 2) {
            int n = random.nextInt(Math.min(room, 12) + 1);
            List<Integer> raw = new ArrayList<>();
            for (int i = 0; i < n; i++) {
                raw.add(97 + random.nextInt(8));
            }
            addHead(blocks, 0, last, n);
            blocks.addAll(raw);
            grow(raw);
        } else if (kind < 3) {
            int n = random.nextInt(Math.min(room, 40) + 1);
            int b = random.nextInt(256);
            addHead(blocks, 1, last, n);
            blocks.add(b);
            for (int i = 0; i < n; i++) {
                grow(List.of(b));
            }
        } else {
            List<Integer> packed = packed();
            addHead(blocks, 2, last, packed.size());
            blocks.addAll(packed);
        }
    }

    private void addHead(List<Integer> blocks, int type, boolean last, int length) {
        blocks.add((length & 31) << 3 | type << 1 | (last ? 1 : 0));
        blocks.add(length >> 5);
    }

    private void grow(List<Integer> bytes) {
        out.addAll(bytes);
        room -= bytes.size();
    }

    private List<Integer> packed() {
        List<Integer> tail = new ArrayList<>();
        List<Oracle.Sequence> sequences = new ArrayList<>();
        int needed = 0;
        if (chance(80)) {
            List<List<Oracle.State>> before = tables;
            List<Integer> heads = new ArrayList<>();
            int modes = addTables(heads);
            String bits = walk(sequences, 1 + random.nextInt(8));
            if (sequences.isEmpty()) {
                tables = before;
                tail.add(0);
            } else {
                tail.add(sequences.size());
                tail.add(modes);
                tail.addAll(heads);
                tail.addAll(Oracle.stream(bits));
            }
            for (Oracle.Sequence s : sequences) {
                needed += s.literals();
            }
        } else {
            tail.add(0);
        }
        int matched = 0;
        for (Oracle.Sequence s : sequences) {
            matched += s.match();
        }
        int more = Math.min(63 - needed, room - needed - matched);
        int count = needed + (chance(50) ? 0 : random.nextInt(Math.max(0, Math.min(more, 9)) + 1));
        List<Integer> packed = new ArrayList<>();
        List<Integer> literals = addLiterals(packed, count);
        packed.addAll(tail);
        perform(literals, sequences);
        return packed;
    }

    private void perform(List<Integer> literals, List<Oracle.Sequence> sequences) {
        int used = 0;
        for (Oracle.Sequence s : sequences) {
            grow(literals.subList(used, used + s.literals()));
            used += s.literals();
            int way = Oracle.way(r, s);
            for (int i = 0; i < s.match(); i++) {
                grow(List.of(out.get(out.size() - way)));
            }
        }
        grow(literals.subList(used, literals.size()));
    }

    private int addTables(List<Integer> heads) {
        int modes = 0;
        List<List<Oracle.State>> made = new ArrayList<>();
        for (int i = 0; i < 3; i++) {
            int codes = i == 1 ? 8 : 12;
            int mode = random.nextInt(tables == null ? 3 : 4);
            modes = modes << 2 | mode;
            if (mode == 3) {
                made.add(tables.get(i));
            } else if (mode == 2) {
                made.add(Oracle.table(addCounts(heads, codes)));
            } else if (mode == 1) {
                int code = random.nextInt(chance(70) ? codes / 2 : codes);
                heads.add(code);
                made.add(List.of(new Oracle.State(code, 0, 0)));
            } else {
                int[] usual = new int[codes];
                Arrays.fill(usual, codes == 8 ? 2 : 1);
                if (codes == 12) {
                    usual[0] = 3;
                    usual[1] = 2;
                    usual[2] = 2;
                }
                made.add(Oracle.table(usual));
            }
        }
        tables = made;
        return modes << 2;
    }

    private int[] addCounts(List<Integer> heads, int codes) {
        int n = 2 + random.nextInt(codes - 1);
        int[] counts = new int[n];
        int[] liked = {random.nextInt(n), random.nextInt(n)};
        int left = 16;
        while (left > 0) {
            int code = chance(60) ? liked[random.nextInt(2)] : random.nextInt(n);
            if (counts[code] < 15) {
                counts[code]++;
                left--;
            }
        }
        heads.add(n);
        addHalves(heads, counts);
        return counts;
    }

    private static void addHalves(List<Integer> row, int[] numbers) {
        for (int i = 0; i < numbers.length; i += 2) {
            row.add(numbers[i] << 4 | (i + 1 < numbers.length ? numbers[i + 1] : 0));
        }
    }

    /** Goes from state to state by any bits while the sequences are good: their bits. */
    private String walk(List<Oracle.Sequence> sequences, int most) {
        StringBuilder bits = new StringBuilder();
        Oracle.State[] at = new Oracle.State[3];
        for (int i = 0; i < 3; i++) {
            at[i] = tables.get(i).get(draw(bits, tables.get(i).size() == 1 ? 0 : 4));
        }
        int[] ways = r.clone();
        int size = out.size();
        int literals = 0;
        for (int i = 0; i < most; i++) {
            StringBuilder own = new StringBuilder();
            Oracle.State[] next = at.clone();
            if (!sequences.isEmpty()) {
                for (int k : new int[] {0, 2, 1}) {
                    next[k] = tables.get(k).get(at[k].base() + draw(own, at[k].width()));
                }
            }
            int value = (1 << next[1].code()) + draw(own, next[1].code());
            int match = M_LEAST[next[2].code()] + draw(own, M_BITS[next[2].code()]);
            int run = L_LEAST[next[0].code()] + draw(own, L_BITS[next[0].code()]);
            Oracle.Sequence s = new Oracle.Sequence(run, value, match);
            int[] after = ways.clone();
            int way = Oracle.way(after, s);
            boolean good = literals + run <= 63 && way >= 1 && way <= size + run
                && size + run + match <= out.size() + room;
            if (good) {
                bits.append(own);
                sequences.add(s);
                at = next;
                ways = after;
                size += run + match;
                literals += run;
            }
        }
        return bits.toString();
    }

    private int draw(StringBuilder bits, int n) {
        int number = n == 0 ? 0 : random.nextInt(1 << n);
        if (n > 2 && chance(40)) {
            number &= 3;
        }
        bits.append(Oracle.binary(number, n));
        return number;
    }

    private List<Integer> addLiterals(List<Integer> packed, int count) {
        int mode = random.nextInt(tree == null ? 3 : 4);
        packed.add(count << 2 | mode);
        List<Integer> literals = new ArrayList<>();
        if (mode == 0) {
            for (int i = 0; i < count; i++) {
                literals.add(random.nextInt(256));
            }
            packed.addAll(literals);
            return literals;
        }
        if (mode == 1) {
            int b = random.nextInt(256);
            packed.add(b);
            for (int i = 0; i < count; i++) {
                literals.add(b);
            }
            return literals;
        }
        if (mode == 2) {
            addTree(packed);
        }
        List<String> codes = new ArrayList<>(tree.keySet());
        StringBuilder bits = new StringBuilder();
        for (int i = 0; i < count; i++) {
            String code = codes.get(random.nextInt(codes.size()));
            bits.append(code);
            literals.add(tree.get(code));
        }
        List<Integer> stream = Oracle.stream(bits.toString());
        packed.add(stream.size());
        packed.addAll(stream);
        return literals;
    }

    /** Splits one symbol again and again, then gives the lengths to symbols, one of them the last. */
    private void addTree(List<Integer> packed) {
        int n = 1 + random.nextInt(16);
        int first = chance(20) ? 255 - n : random.nextInt(256 - n);
        List<Integer> lengths = new ArrayList<>(List.of(1, 1));
        int splits = random.nextInt(n);
        for (int i = 0; i < splits; i++) {
            int k = chance(50) ? lengths.size() - 1 : random.nextInt(lengths.size());
            if (lengths.get(k) < 7) {
                int length = lengths.remove(k) + 1;
                lengths.add(length);
                lengths.add(length);
            }
        }
        int greatest = lengths.stream().mapToInt(Integer::intValue).max().getAsInt();
        java.util.Collections.shuffle(lengths, random);
        TreeMap<Integer, Integer> weightOf = new TreeMap<>();
        weightOf.put(n, greatest + 1 - lengths.remove(0));
        while (!lengths.isEmpty()) {
            int symbol = random.nextInt(n);
            if (!weightOf.containsKey(symbol)) {
                weightOf.put(symbol, greatest + 1 - lengths.remove(0));
            }
        }
        int[] weights = new int[n];
        for (int i = 0; i < n; i++) {
            weights[i] = weightOf.getOrDefault(i, 0);
        }
        packed.add(first);
        packed.add(n);
        addHalves(packed, weights);
        tree = Oracle.codesOf(first, weights);
    }
}
