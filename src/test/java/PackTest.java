import java.util.ArrayList;
import java.util.Arrays;
import java.util.Collections;
import java.util.HashSet;
import java.util.List;
import java.util.Random;
import java.util.Set;
import java.util.stream.IntStream;

/** Promise 9 by hand, sentence by sentence: what pack adds to the wire, and the edges between its kinds. */
public final class PackTest {
    private static final Checks CHECKS = new Checks();
    // The least states of the codes in the USUAL tables.
    private static final int[] LENGTH_STATES = {0, 4, 1, 11, 8, 5, 2, 15, 12, 9, 6, 3};
    private static final int[] WAY_STATES = {0, 7, 1, 11, 5, 2, 9, 3};

    public static void main(String[] args) {
        addsAFrame();
        full();
        runs();
        literalLimit();
        shorterThanContent();
        longestAndGreatest();
        matchesOf3();
        literalsAhead();
        leastValues();
        codesOfL();
        codesOfM();
        codesOfB();
        leastStatesAndBack();
        literalsAllTheSame();
        treeOrPlain();
        spanOf16();
        treeShorterThanLiterals();
        deepestTree();
        firstAndGreatest();
        equalCounts();
        weights();
        manySequences();
        oneObjectForAll();
        CHECKS.end();
    }

    private static PackFrames holding(int[] content) {
        PackFrames x = new PackFrames();
        Bytes.writeAll(x, content);
        return x;
    }

    private static List<Integer> list(int[] row) {
        return IntStream.of(row).boxed().toList();
    }

    /** The frame of this CONTENT, which must come back from it and be as the Oracle's. */
    private static List<Integer> frameOf(int[] content) {
        PackFrames x = holding(content);
        int length = x.pack(false);
        List<Integer> frame = IntStream.range(0, length).mapToObj(x::wire).toList();
        CHECKS.due("wire(-1)", x.wire(-1), length);
        CHECKS.due("frame of " + Bytes.show(content), frame.toString(), Oracle.frame(list(content), false).toString());
        x.clear();
        CHECKS.due("unpack()", x.unpack(), content.length);
        CHECKS.due("CONTENT again", Bytes.contentOf(x), Bytes.show(content));
        return frame;
    }

    private static int typeOf(int[] content) {
        return frameOf(content).get(4) >> 1 & 3;
    }

    /** How the literals stand in the PACK that this CONTENT must become. */
    private static int kindOf(int[] content) {
        List<Integer> frame = frameOf(content);
        CHECKS.due("TYPE of " + Bytes.show(content), frame.get(4) >> 1 & 3, 2);
        return frame.get(6) & 3;
    }

    private static void packs(String what, int[] content, int... wire) {
        PackFrames x = holding(content);
        CHECKS.due("pack(false) of " + what, x.pack(false), wire.length);
        CHECKS.due("wire of " + what, Bytes.wireOf(x), Bytes.show(wire));
        CHECKS.due("CONTENT of " + what, Bytes.contentOf(x), Bytes.show(content));
        CHECKS.due("unpack() of " + what, x.unpack(), content.length);
        CHECKS.due("CONTENT again of " + what, Bytes.contentOf(x), Bytes.show(content));
    }

    /** The sequences of the PACK, each as L, VALUE, M. */
    private static void sequences(String what, int[] content, int[]... due) {
        List<Integer> frame = frameOf(content);
        StringBuilder got = new StringBuilder();
        Oracle.sequencesOf(frame).forEach(s -> got.append(Bytes.show(Bytes.row(s.literals(), s.value(), s.match()))));
        StringBuilder want = new StringBuilder();
        for (int[] s : due) {
            want.append(Bytes.show(s));
        }
        CHECKS.due("sequences of " + what, got.toString(), want.toString());
    }

    private static int[] range(int from, int to) {
        return IntStream.range(from, to).toArray();
    }

    private static void addsAFrame() {
        CHECKS.words("Adds a frame of CONTENT to the wire (with a CHECK, if check), of one block, the last one: "
            + "how many bytes it has;");
        packs("nothing", Bytes.row(), 90, 0, 0, 0, 1, 0);
        PackFrames x = new PackFrames();
        CHECKS.due("pack(true) of nothing", x.pack(true), 8);
        CHECKS.due("wire", Bytes.wireOf(x), "[90, 1, 0, 0, 1, 0, 0, 0]");
        x = holding(Bytes.text("abcdabcdab"));
        CHECKS.due("pack(true)", x.pack(true), 17);
        CHECKS.due("wire(1)", x.wire(1), 1);
        CHECKS.due("the CHECK", x.wire(15) + 256 * x.wire(16), x.mark());
        x = holding(Bytes.text("abcdabcdab"));
        x.skip(1);
        CHECKS.due("pack(false) behind a SKIP", x.pack(false), 15);
        CHECKS.due("pack(false) again", x.pack(false), 15);
        CHECKS.due("wire(-1)", x.wire(-1), 33);
        for (int i = 0; i < 15; i++) {
            CHECKS.due("byte " + i + " of both", x.wire(18 + i), x.wire(3 + i));
        }
        CHECKS.due("CONTENT", Bytes.contentOf(x), Bytes.show(Bytes.text("abcdabcdab")));
        CHECKS.due("unpack() of both", x.unpack(), 20);
    }

    private static void full() {
        CHECKS.words("FULL, changing nothing, if there would be more than 240.");
        int[][] contents = {{}, Bytes.row(5), Bytes.times(9, 120), Bytes.row(1, 2), range(0, 120), range(100, 160),
            Bytes.text("abcdabcdab"), Bytes.text("aabbccacbaac"), Bytes.join(range(0, 60), range(0, 60))};
        for (int[] content : contents) {
            for (boolean check : new boolean[] {false, true}) {
                int length = Oracle.frame(list(content), check).size();
                edgeOfFull(content, check, length);
            }
        }
        PackFrames y = holding(range(0, 120));
        CHECKS.due("pack(true) of 120", y.pack(true), 128);
        CHECKS.due("pack(true) of 120 again", y.pack(true), PackFrames.FULL);
        CHECKS.due("wire(-1)", y.wire(-1), 128);
    }

    private static void edgeOfFull(int[] content, boolean check, int length) {
        String what = "pack(" + check + ") of " + Bytes.show(content);
        PackFrames x = holding(content);
        Bytes.putAll(x, Bytes.times(1, 241 - length));
        String wire = Bytes.wireOf(x);
        CHECKS.due(what + " for 241", x.pack(check), PackFrames.FULL);
        CHECKS.due("wire", Bytes.wireOf(x), wire);
        CHECKS.due("CONTENT", Bytes.contentOf(x), Bytes.show(content));
        x.wipe();
        Bytes.putAll(x, Bytes.times(1, 240 - length));
        CHECKS.due(what + " for 240", x.pack(check), length);
        CHECKS.due("wire(-1)", x.wire(-1), 240);
        CHECKS.due("the frame's first byte", x.wire(240 - length), 90);
        wire = Bytes.wireOf(x);
        CHECKS.due(what + " when full", x.pack(check), PackFrames.FULL);
        CHECKS.due("wire", Bytes.wireOf(x), wire);
        CHECKS.due("CONTENT", Bytes.contentOf(x), Bytes.show(content));
    }

    private static void runs() {
        CHECKS.words("The block has TYPE 1 if CONTENT has a byte and all of its bytes are the same.");
        CHECKS.due("TYPE of nothing", typeOf(Bytes.row()), 0);
        packs("one byte", Bytes.row(0), 90, 0, 1, 0, 1 << 3 | 3, 0, 0);
        packs("two bytes", Bytes.row(255, 255), 90, 0, 2, 0, 2 << 3 | 3, 0, 255);
        packs("31 bytes", Bytes.times(7, 31), 90, 0, 31, 0, 251, 0, 7);
        packs("32 bytes", Bytes.times(7, 32), 90, 0, 32, 0, 3, 1, 7);
        packs("120 bytes", Bytes.times(7, 120), 90, 0, 120, 0, 24 << 3 | 3, 3, 7);
        for (int n = 1; n <= 120; n++) {
            CHECKS.due("TYPE of " + n + " the same", typeOf(Bytes.times(200, n)), 1);
        }
        CHECKS.due("TYPE, the first another", typeOf(Bytes.join(Bytes.row(8), Bytes.times(7, 119))), 2);
        CHECKS.due("TYPE, the last another", typeOf(Bytes.join(Bytes.times(7, 119), Bytes.row(8))), 2);
        CHECKS.due("TYPE, one of two another", typeOf(Bytes.row(7, 8)), 0);
    }

    /** Letters without three that stand twice, as many as their counts say, in an order that the seed finds. */
    private static int[] apart(int[] counts, int first) {
        List<Integer> letters = new ArrayList<>();
        for (int i = 0; i < counts.length; i++) {
            letters.addAll(Collections.nCopies(counts[i], first + i));
        }
        Random random = new Random(9);
        for (int tries = 0; tries < 2_000_000; tries++) {
            Collections.shuffle(letters, random);
            if (noThreeTwice(letters)) {
                return Bytes.array(letters);
            }
        }
        throw new IllegalStateException("no order found for " + Arrays.toString(counts));
    }

    private static boolean noThreeTwice(List<Integer> letters) {
        Set<List<Integer>> seen = new HashSet<>();
        for (int i = 0; i + 3 <= letters.size(); i++) {
            if (!seen.add(letters.subList(i, i + 3))) {
                return false;
            }
        }
        return true;
    }

    // A row of a, b, c, d in which no three stand twice.
    private static final String NO_THREE_TWICE = "aaabaacaadabbabcabdacbaccacdadbadcaddbbbcbbdbccbcdbdcbddcccdcddd";

    private static void literalLimit() {
        CHECKS.words("Otherwise it has TYPE 2 if there are at most 63 literals as said below");
        CHECKS.due("63 literals and a match", typeOf(Bytes.join(range(0, 63), range(0, 57))), 2);
        CHECKS.due("64 literals and a match", typeOf(Bytes.join(range(0, 64), range(0, 56))), 0);
        CHECKS.due("80 literals and a match", typeOf(Bytes.join(range(0, 80), range(0, 40))), 0);
        int[] letters = Bytes.text(NO_THREE_TWICE);
        CHECKS.due("64 letters have no three twice", noThreeTwice(list(letters)) && letters.length == 64, true);
        CHECKS.due("63 literals and no match", typeOf(Arrays.copyOf(letters, 63)), 2);
        CHECKS.due("64 literals and no match", typeOf(letters), 0);
        CHECKS.due("62 literals, a match and one literal",
            typeOf(Bytes.join(range(0, 62), range(0, 20), Bytes.row(200))), 2);
        CHECKS.due("62 literals, a match and two literals",
            typeOf(Bytes.join(range(0, 62), range(0, 20), Bytes.row(200, 201))), 0);
    }

    private static void shorterThanContent() {
        CHECKS.words("and the PACK is shorter than CONTENT, and TYPE 0 if not.");
        // Four literals, their head, two bytes and 13 bits: nine bytes.
        CHECKS.due("nine for ten", typeOf(Bytes.text("abcdabcdab")), 2);
        CHECKS.due("nine for nine", typeOf(Bytes.text("abcdabcda")), 0);
        CHECKS.due("nine for eight", typeOf(Bytes.text("abcdabcd")), 0);
        // A TREE of three and 15 or 12 bits: head, 3, s, 2, and a byte 0: eight bytes.
        CHECKS.due("eight for nine, a TREE", typeOf(apart(new int[] {3, 3, 3}, 97)), 2);
        CHECKS.due("eight for eight, a TREE", typeOf(apart(new int[] {4, 2, 2}, 97)), 0);
        packs("two bytes", Bytes.row(1, 2), 90, 0, 2, 0, 17, 0, 1, 2);
        int[] all = range(100, 160);
        packs("60 bytes, no two the same", all, Bytes.join(Bytes.row(90, 0, 60, 0, 28 << 3 | 1, 1), all));
        int[] most = range(100, 220);
        packs("120 bytes, no two the same", most, Bytes.join(Bytes.row(90, 0, 120, 0, 24 << 3 | 1, 3), most));
    }

    private static void longestAndGreatest() {
        CHECKS.words("from place 0 on, at each place p: of all q below p that one from which most bytes on are "
            + "the same as from p on "
            + "(up to the end of CONTENT; they may go beyond p), of several the greatest.");
        int[] head = Bytes.join(range(0, 10), Bytes.row(50), range(0, 4), Bytes.row(60));
        // At 16: ten bytes are the same from 0 on, but four from 11 on, which is nearer.
        sequences("the longest", Bytes.join(head, range(0, 10)), new int[] {11, 14, 4}, new int[] {1, 19, 10});
        // At 16: four are the same from both, since CONTENT ends.
        sequences("the greatest", Bytes.join(head, range(0, 4)), new int[] {11, 14, 4}, new int[] {1, 8, 4});
        // At 16: five are the same from 0 on, four from 11 on.
        sequences("the longest by one", Bytes.join(head, range(0, 5)), new int[] {11, 14, 4}, new int[] {1, 19, 5});
        for (int n = 3; n <= 120; n++) {
            int[] turns = new int[n];
            Arrays.setAll(turns, i -> i % 2 == 0 ? 0 : 200);
            // Two literals, their head, two bytes and 14 bits or more: seven bytes or more.
            if (n >= 8) {
                sequences("two bytes in turn, " + n, turns, new int[] {2, 5, n - 2});
            } else {
                CHECKS.due("TYPE of two bytes in turn, " + n, typeOf(turns), 0);
            }
        }
        // From p - 1, and to the end but one.
        sequences("a run and another", Bytes.join(Bytes.times(7, 119), Bytes.row(8)), new int[] {1, 1, 118});
        sequences("another and a run", Bytes.join(Bytes.row(8), Bytes.times(7, 119)), new int[] {2, 1, 118});
    }

    private static void matchesOf3() {
        CHECKS.words("If these are 3 or more, they are a match with W = p - q, and p goes behind it; "
            + "if not, the byte at p is a literal, and p grows by 1.");
        int[] twice = Bytes.join(range(0, 30), range(0, 30));
        int[] first = {30, 33, 30};
        sequences("two at the end", Bytes.join(twice, Bytes.row(100, 5, 6)), first);
        sequences("three at the end", Bytes.join(twice, Bytes.row(100, 5, 6, 7)), first, new int[] {1, 29, 3});
        sequences("two, then three", Bytes.join(twice, Bytes.row(100, 5, 6, 101, 5, 6, 7)), first, new int[] {4, 32, 3});
        sequences("two, then three, then one", Bytes.join(twice, Bytes.row(100, 5, 6, 101, 5, 6, 7, 102)),
            first, new int[] {4, 32, 3});
        // 6, 7 and 8 are in a match already when their places come: no sequence begins within another.
        sequences("five", Bytes.join(twice, Bytes.row(100, 4, 5, 6, 7, 8, 102)), first, new int[] {1, 30, 5});
        CHECKS.due("TYPE with matches of two alone", typeOf(Bytes.text("abcdeabfgcdhij")), 0);
    }

    private static void literalsAhead() {
        CHECKS.words("A sequence is a match with the L literals ahead of it since the match before.");
        int[] head = Bytes.join(range(0, 20), range(0, 8));
        sequences("none", Bytes.join(head, Bytes.row(9, 10, 11)), new int[] {20, 23, 8}, new int[] {0, 3, 3});
        sequences("one", Bytes.join(head, Bytes.row(100, 9, 10, 11)), new int[] {20, 23, 8}, new int[] {1, 1, 3});
        sequences("two", Bytes.join(head, Bytes.row(100, 101, 9, 10, 11)), new int[] {20, 23, 8}, new int[] {2, 24, 3});
        sequences("none again and again", Bytes.join(head, Bytes.row(9, 10, 11, 13, 14, 15, 17, 18, 19)),
            new int[] {20, 23, 8}, new int[] {0, 3, 3}, new int[] {0, 3, 3}, new int[] {0, 3, 3});
        int[] left = Bytes.join(head, Bytes.row(100, 101, 102));
        sequences("three left", left, new int[] {20, 23, 8});
        CHECKS.due("literals with three left", Oracle.literalsOf(frameOf(left)).toString(),
            Bytes.show(Bytes.join(range(0, 20), Bytes.row(100, 101, 102))));
    }

    private static void leastValues() {
        CHECKS.words("The VALUE is the least of 1, 2, 3 that gives this W by the rules, else W + 3.");
        for (int way = 1; way <= 12; way++) {
            int value = way == 1 ? 1 : way == 4 ? 2 : way == 8 ? 3 : way + 3;
            sequences("W " + way + " at first", repeating(12, way, 20), new int[] {12, value, 20});
        }
        // Behind this, R1, R2, R3 are 20, 1, 4.
        int[] head = Bytes.join(range(0, 20), range(0, 8));
        int[] first = {20, 23, 8};
        sequences("L 0, R2", Bytes.join(head, Bytes.row(7, 7, 7)), first, new int[] {0, 1, 3});
        sequences("L 0, R3", Bytes.join(head, Bytes.row(4, 5, 6)), first, new int[] {0, 2, 3});
        sequences("L 0, R1 - 1", Bytes.join(head, Bytes.row(9, 10, 11)), first, new int[] {0, 3, 3});
        sequences("L 0, W 13", Bytes.join(head, Bytes.row(15, 16, 17)), first, new int[] {0, 16, 3});
        sequences("L 1, R1", Bytes.join(head, Bytes.row(100, 9, 10, 11)), first, new int[] {1, 1, 3});
        sequences("L 1, R2", Bytes.join(head, Bytes.row(100, 100, 100, 100)), first, new int[] {1, 2, 3});
        sequences("L 1, R3", Bytes.join(head, Bytes.row(100, 5, 6, 7)), first, new int[] {1, 3, 3});
        sequences("L 1, R1 - 1", Bytes.join(head, Bytes.row(100, 10, 11, 12)), first, new int[] {1, 22, 3});
        sequences("L 1, W 8 that was R3", Bytes.join(head, Bytes.row(100, 1, 2, 3)), first, new int[] {1, 11, 3});
        // VALUE 3 makes it 4, 20, 1; VALUE 2 makes it 1, 20, 4.
        int[] third = Bytes.join(head, Bytes.row(100, 5, 6, 7, 101));
        sequences("W 20 behind VALUE 3", Bytes.join(third, Bytes.row(13, 14, 15)),
            first, new int[] {1, 3, 3}, new int[] {1, 2, 3});
        sequences("W 1 behind VALUE 3", Bytes.join(third, Bytes.row(101, 101, 101)),
            first, new int[] {1, 3, 3}, new int[] {1, 3, 3});
        sequences("W 4 behind VALUE 2", Bytes.join(head, Bytes.row(100, 100, 100, 100, 101, 100, 100, 100)),
            first, new int[] {1, 2, 3}, new int[] {1, 3, 3});
    }

    /** So many literals, no two the same, and then so many bytes that are each as the one W before. */
    private static int[] repeating(int literals, int way, int match) {
        int[] row = new int[literals + match];
        for (int i = 0; i < row.length; i++) {
            row[i] = i < literals ? 3 * i : row[i - way];
        }
        return row;
    }

    /** The wire of such CONTENT, from the codes of L, VALUE and M and their bits. */
    private static void oneSequence(int literals, int way, int match, int[] codes, String bits) {
        int[] content = repeating(literals, way, match);
        int[] stream = Bytes.stream(Wires.binary(LENGTH_STATES[codes[0]], 4) + Wires.binary(WAY_STATES[codes[1]], 4)
            + Wires.binary(LENGTH_STATES[codes[2]], 4) + bits);
        int[] body = Bytes.join(Bytes.row(literals << 2), Arrays.copyOf(content, literals), Bytes.row(1, 0), stream);
        packs("L " + literals + ", W " + way + ", M " + match, content,
            Bytes.join(Bytes.row(90, 0, content.length, 0), Bytes.block(2, true, body.length, body)));
    }

    private static void codesOfL() {
        CHECKS.words("The codes are the ones whose lengths or VALUES hold these;");
        // W 1 is VALUE 1, M 20 is 17 and 3 by three bits.
        int[][] edges = {{2, 2}, {3, 3}, {7, 7}, {8, 8, 0, 1}, {9, 8, 1, 1}, {10, 9, 0, 1}, {11, 9, 1, 1}, {12, 10, 0, 2},
            {13, 10, 1, 2}, {15, 10, 3, 2}, {16, 11, 0, 6}, {17, 11, 1, 6}, {62, 11, 46, 6}, {63, 11, 47, 6}};
        for (int[] e : edges) {
            String own = e.length == 2 ? "" : Wires.binary(e[2], e[3]);
            oneSequence(e[0], 1, 20, new int[] {e[1], 0, 10}, "011" + own);
        }
    }

    private static void codesOfM() {
        CHECKS.words("The codes are the ones whose lengths or VALUES hold these;");
        int[][] edges = {{8, 5}, {9, 6}, {10, 7}, {11, 8, 0, 1}, {12, 8, 1, 1}, {13, 9, 0, 2}, {16, 9, 3, 2}, {17, 10, 0, 3},
            {24, 10, 7, 3}, {25, 11, 0, 7}, {26, 11, 1, 7}, {117, 11, 92, 7}, {118, 11, 93, 7}};
        for (int[] e : edges) {
            String own = e.length == 2 ? "" : Wires.binary(e[2], e[3]);
            oneSequence(2, 1, e[0], new int[] {2, 0, e[1]}, own);
        }
        int[] twice = Bytes.join(range(0, 30), range(0, 30), Bytes.row(100));
        for (int m = 3; m <= 7; m++) {
            // From 35 on: W is 26.
            sequences("M " + m, Bytes.join(twice, range(5, 5 + m)), new int[] {30, 33, 30}, new int[] {1, 29, m});
        }
    }

    private static void codesOfB() {
        CHECKS.words("The codes are the ones whose lengths or VALUES hold these; all tables are the USUAL ones.");
        // L 63 is 16 and 47, M 20 is 17 and 3.
        int[][] edges = {{1, 0, 0}, {4, 1, 0}, {8, 1, 1}, {2, 2, 1}, {3, 2, 2}, {5, 3, 0}, {12, 3, 7}, {13, 4, 0}, {28, 4, 15},
            {29, 5, 0}, {60, 5, 31}, {61, 6, 0}, {62, 6, 1}, {63, 6, 2}};
        for (int[] e : edges) {
            oneSequence(63, e[0], 20, new int[] {11, e[1], 10}, Wires.binary(e[2], e[1]) + "011" + "101111");
        }
        // Three bytes, a run, and the three again from 0 on.
        for (int way = 12; way <= 117; way++) {
            int[] content = Bytes.join(Bytes.row(1, 2, 3), Bytes.times(200, way - 3), Bytes.row(1, 2, 3));
            sequences("W " + way, content, new int[] {4, 1, way - 4}, new int[] {0, way + 3, 3});
        }
    }

    private static void leastStatesAndBack() {
        CHECKS.words("The last sequence's states are the least ones of their codes; "
            + "going back, each state is the one of its code from which the next one is reached.");
        // L 4: code 4, state 8. W 4 is R2: VALUE 2, code 1, state 7, bit 0. M 6: code 3, state 11.
        packs("abcdabcdab", Bytes.text("abcdabcdab"), Bytes.join(Bytes.row(90, 0, 10, 0, 77, 0),
            Bytes.row(16, 97, 98, 99, 100, 1, 0), Bytes.stream("1000 0111 1011 0")));
        // W 6 is VALUE 9, code 3, bits 001; L 6 and M 6: codes 6 and 3.
        // Then L 1 and W 4 by VALUE 3 (R is 6 1 4), M 8: codes 1, 1 and 5.
        // The last states: L 4, M 5, B 7. L before: state 2 (WIDTH 4, BASE 0), bits 0100.
        // M before: state 11 (WIDTH 4), bits 0101. B before, code 3: state 11 (WIDTH 3, BASE 0), bits 111.
        packs("two matches", Bytes.text("abcdefabcdefxdefxdefx"), Bytes.join(Bytes.row(90, 0, 21, 0, 117, 0),
            Bytes.row(28, 97, 98, 99, 100, 101, 102, 120, 2, 0),
            Bytes.stream("0010 1011 1011 001 0100 0101 111 1")));
        // L 2, VALUE 5, M 8, then L 4, VALUE 3 (R is 2 1 4), M 4. The last states: L 8, M 4, B 7.
        // L before, code 2: 14, not the least one, since its BASE is 8: bits 000. M before: state 5, bits 0100.
        // B before, code 2: state 1 (BASE 0), bits 111.
        packs("a state that is not the least", Bytes.text("ababababab" + "cdefcdef"), Bytes.join(
            Bytes.row(90, 0, 18, 0, 109, 0, 24, 97, 98, 99, 100, 101, 102, 2, 0),
            Bytes.stream("1110 0001 0101 01 000 0100 111 1")));
    }

    private static void literalsAllTheSame() {
        CHECKS.words("LITERALS: 1 if there are two or more and all are the same.");
        // A match brings no byte that was no literal before, so literals that are all the same make CONTENT a run,
        // which has TYPE 1: there is no PACK with them. All rows of two bytes up to twelve show it.
        for (int n = 1; n <= 12; n++) {
            for (int bits = 0; bits < 1 << n; bits++) {
                int[] content = Bytes.text(Wires.binary(bits, n));
                PackFrames x = holding(content);
                x.pack(false);
                boolean same = bits == 0 || bits == (1 << n) - 1;
                CHECKS.due("TYPE 1 for " + Bytes.show(content), (x.wire(4) >> 1 & 3) == 1, same);
                boolean ones = (x.wire(4) >> 1 & 3) == 2 && (x.wire(6) & 3) == 1;
                CHECKS.due("LITERALS 1 for " + Bytes.show(content), ones, false);
            }
        }
    }

    private static void treeOrPlain() {
        CHECKS.words("Otherwise 2 with a TREE, if the greatest byte is at most 16 above the least, no LENGTH is "
            + "above 7, "
            + "and TREE, s and STREAM together are shorter than the literals; otherwise 0.");
        // a 5, b 3, c 4: b and c are joined, then a: weights 2, 1, 1. Cells b 0, c 1, a 2 and 3.
        packs("aabbccacbaac", Bytes.text("aabbccacbaac"), Bytes.join(Bytes.row(90, 0, 12, 0, 77, 0),
            Bytes.row(12 << 2 | 2, 97, 2, 0x21, 3), Bytes.stream("1 1 00 00 01 01 1 01 00 1 1 01"), Bytes.row(0)));
        // Two literals that are not the same.
        CHECKS.due("two literals", kindOf(Bytes.text("abababababab")), 0);
    }

    private static void spanOf16() {
        CHECKS.words("if the greatest byte is at most 16 above the least,");
        CHECKS.due("16 above the least", kindOf(spread(16)), 2);
        CHECKS.due("17 above the least", kindOf(spread(17)), 0);
        CHECKS.due("18 above the least", kindOf(spread(18)), 0);
        CHECKS.due("255 above the least", kindOf(spread(255)), 0);
        CHECKS.due("16 above 239", kindOf(raised(spread(16), 239)), 2);
        CHECKS.due("17 above 238", kindOf(raised(spread(17), 238)), 0);
    }

    /** Many literals of 0, 1, 2 and one of the span, and then a long match. */
    private static int[] spread(int span) {
        int[] head = {0, 0, 1, 1, 2, 2, 0, 2, 1, 0, 0, 2, 0, 0, 0, 1, 0, 1, 2, 1, 1, 1, span};
        return Bytes.join(head, head, head);
    }

    private static int[] raised(int[] row, int by) {
        return IntStream.of(row).map(b -> b + by).toArray();
    }

    private static void treeShorterThanLiterals() {
        CHECKS.words("and TREE, s and STREAM together are shorter than the literals; otherwise 0.");
        // Two symbols side by side: 3 bytes, s and 1 byte for up to seven bits.
        CHECKS.due("five for five", kindOf(threeTimes(3, 2)), 0);
        CHECKS.due("five for six", kindOf(threeTimes(3, 3)), 2);
        // Three symbols, 16 apart: 10 bytes, s, and 22 or 23 bits in 3 bytes.
        CHECKS.due("14 for 14", kindOf(threeTimes(6, 4, 0, 0, 0, 0, 0, 0, 0, 0, 0, 0, 0, 0, 0, 0, 4)), 0);
        CHECKS.due("14 for 15", kindOf(threeTimes(7, 4, 0, 0, 0, 0, 0, 0, 0, 0, 0, 0, 0, 0, 0, 0, 4)), 2);
        // 24 bits take 4 bytes: 3 bytes, s and 4; 23 bits take 3.
        CHECKS.due("s for 24 bits", frameOf(threeTimes(8, 4, 4)).get(10), 4);
        CHECKS.due("s for 23 bits", frameOf(threeTimes(7, 4, 4)).get(10), 3);
    }

    /** Literals of these counts, and then the same twice more as one match. */
    private static int[] threeTimes(int... counts) {
        List<Integer> letters = new ArrayList<>();
        for (int i = 0; i < counts.length; i++) {
            letters.addAll(Collections.nCopies(counts[i], 97 + i));
        }
        Random random = new Random(9);
        for (int tries = 0; tries < 2_000_000; tries++) {
            Collections.shuffle(letters, random);
            List<Integer> round = new ArrayList<>(letters);
            round.addAll(letters.subList(0, 2));
            if (noThreeTwice(round)) {
                int[] row = Bytes.array(letters);
                return Bytes.join(row, row, row);
            }
        }
        throw new IllegalStateException("no order found for " + Arrays.toString(counts));
    }

    private static void deepestTree() {
        CHECKS.words("no LENGTH is above 7,");
        // No three bytes twice. a 16, b 10, c 6, d 4, e to i 1 each. Joined: e f, g h, i ef, gh ief, and then
        // d, c, b and a one by one. LENGTHS 1, 2, 3, 4, 7, 7, 6, 6, 6, so the weights are 7 6 5 4 1 1 2 2 2.
        // Cells: e 0, f 1, g 2, h 4, i 6, d 8, c 16, b 32, a 64. All COUNTS of up to 17 bytes have been gone through:
        // LENGTH 7 takes 41 literals and LENGTH 8 takes 67, so that 7 is the last one that can be seen with 63.
        String text = "baahaacaaeaadbafbdbcabacbbicbabbdadccagaa";
        String[] codes = {"1", "01", "001", "0001", "0000000", "0000001", "000001", "000010", "000011"};
        StringBuilder bits = new StringBuilder();
        for (char c : text.toCharArray()) {
            bits.append(codes[c - 'a']);
        }
        int[] stream = Bytes.stream(bits.toString());
        packs("a TREE of DEPTH 7", Bytes.text(text), Bytes.join(Bytes.row(90, 0, 41, 0, (9 + stream.length) << 3 | 5, 0),
            Bytes.row(41 << 2 | 2, 97, 8, 0x76, 0x54, 0x11, 0x22, stream.length), stream, Bytes.row(0)));
    }

    /** The TREE on the wire of literals of these counts, without a match. */
    private static String treeOf(int first, int... counts) {
        List<Integer> frame = frameOf(apart(counts, first));
        CHECKS.due("TYPE", frame.get(4) >> 1 & 3, 2);
        CHECKS.due("LITERALS", frame.get(6) & 3, 2);
        return frame.subList(7, 9 + (frame.get(8) + 1) / 2).toString();
    }

    private static void firstAndGreatest() {
        CHECKS.words("The TREE: FIRST is the least byte, FIRST + n the greatest.");
        for (int first : new int[] {0, 1, 97, 239}) {
            List<Integer> frame = frameOf(raised(spread(16), first));
            CHECKS.due("FIRST", frame.get(7), first);
            CHECKS.due("n", frame.get(8), 16);
        }
        // Wherever they stand: the one byte 3 or 19 at each place of the literals.
        int[] middle = Arrays.copyOf(raised(spread(16), 10), 22);
        for (int place = 0; place <= middle.length; place++) {
            firstAndN("the least at " + place, with(middle, place, 3), 3, 9);
            firstAndN("the greatest at " + place, with(middle, place, 19), 10, 9);
        }
        CHECKS.due("n is 1", treeOf(254, 5, 5), "[254, 1, 16]");
        CHECKS.due("n is 2", treeOf(253, 4, 4, 4), "[253, 2, 17]");
        CHECKS.due("n is 2 from 0 on", treeOf(0, 4, 4, 4), "[0, 2, 17]");
    }

    private static int[] with(int[] row, int place, int b) {
        return Bytes.join(Arrays.copyOf(row, place), Bytes.row(b), Arrays.copyOfRange(row, place, row.length));
    }

    private static void firstAndN(String what, int[] content, int first, int n) {
        List<Integer> frame = frameOf(content);
        CHECKS.due(what + ", LITERALS", frame.get(6) & 3, 2);
        CHECKS.due(what + ", FIRST", frame.get(7), first);
        CHECKS.due(what + ", n", frame.get(8), n);
    }

    private static void equalCounts() {
        CHECKS.words("Each byte that is there has its number as a COUNT; again and again the two of least COUNT "
            + "(of equal ones a byte before what was joined, the lesser byte first, "
            + "the earlier joined first) are joined and have the sum as their COUNT, until all are one; "
            + "a byte's LENGTH is how often it was joined.");
        // a and b are joined, so that c has LENGTH 1: weights 1, 1 and 2.
        CHECKS.due("the lesser byte first", treeOf(97, 4, 4, 4), "[97, 2, " + 0x11 + "]");
        // ab has 8 as c and d have: c and d are joined, and all have LENGTH 2.
        CHECKS.due("a byte before what was joined", treeOf(97, 4, 4, 8, 8), "[97, 3, " + 0x11 + ", " + 0x10 + "]");
        // ab, cd and ef have 8 each: ab and cd are joined, and e and f have LENGTH 2.
        CHECKS.due("the earlier joined first", treeOf(97, 4, 4, 4, 4, 4, 4),
            "[97, 5, " + 0x11 + ", " + 0x11 + ", " + 0x20 + "]");
        // The least COUNT goes first, whichever byte has it: d 3 and b 4 are joined, then c 5 and a 6, weights 1 each.
        CHECKS.due("the least first", treeOf(97, 6, 4, 5, 3), "[97, 3, " + 0x11 + ", " + 0x10 + "]");
        // c 3 and d 4 are joined (7), then b 5 and cd, then a 13: weights 3, 2, 1 and 1.
        CHECKS.due("the sum as COUNT", treeOf(97, 13, 5, 3, 4), "[97, 3, " + 0x32 + ", " + 0x10 + "]");
    }

    private static void weights() {
        CHECKS.words("The weight is the greatest LENGTH + 1 less its own; bytes that are not there have the weight 0.");
        // c and f are joined, then a: LENGTHS 1, 2, 2.
        CHECKS.due("three of six", treeOf(97, 6, 0, 4, 0, 0, 4), "[97, 5, " + 0x20 + ", " + 0x10 + ", 0]");
        CHECKS.due("three of seven", treeOf(97, 6, 0, 4, 0, 0, 0, 4), "[97, 6, " + 0x20 + ", " + 0x10 + ", 0]");
        CHECKS.due("three of four", treeOf(97, 6, 0, 4, 4), "[97, 3, " + 0x20 + ", " + 0x10 + "]");
        CHECKS.due("three of four, the third not there", treeOf(97, 4, 6, 0, 4), "[97, 3, " + 0x12 + ", 0]");
        // 17 bytes, two of each: 0 1, 2 3 and so on to 14 15 are joined (4 each), then 16 and 0 1 (6), 2 to 5, 6 to 9,
        // 10 to 13 (8 each), 14 15 and 16 0 1 (10), 2 to 9 (16), 10 to 16 and 0 1 (18), and all.
        // 0 and 1 have LENGTH 5, all others 4.
        int[] counts = new int[17];
        Arrays.fill(counts, 2);
        CHECKS.due("17 of 17", treeOf(97, counts), "[97, 16, 17, 34, 34, 34, 34, 34, 34, 34]");
    }

    private static void manySequences() {
        CHECKS.words("A sequence is a match with the L literals ahead of it since the match before.");
        // Threes out of 0 .. 8, no two of them one behind the other twice: 37 matches of 3 in 120 bytes.
        int[] content = threes(9);
        CHECKS.due("CONTENT", content.length, 120);
        List<Oracle.Sequence> sequences = Oracle.sequencesOf(frameOf(content));
        CHECKS.due("sequences", sequences.size(), 37);
        for (int i = 0; i < 37; i++) {
            CHECKS.due("L of " + i, sequences.get(i).literals(), i == 0 ? 9 : 0);
            CHECKS.due("M of " + i, sequences.get(i).match(), 3);
        }
    }

    /** The literals 0 .. literals - 1 and then threes of them, each such that it is the longest match by itself. */
    private static int[] threes(int literals) {
        Random random = new Random(3);
        for (int tries = 0; tries < 100_000; tries++) {
            int[] row = Arrays.copyOf(range(0, literals), 120);
            int size = literals;
            Set<List<Integer>> pairs = new HashSet<>();
            int before = literals - 3;
            for (int failed = 0; failed < 200 && size + 3 <= 120; ) {
                int next = random.nextInt(literals - 2);
                // No three goes on where the one before it ended, and no two come together again.
                if (next != before + 3 && pairs.add(List.of(before, next))) {
                    row[size++] = next;
                    row[size++] = next + 1;
                    row[size++] = next + 2;
                    before = next;
                } else {
                    failed++;
                }
            }
            if (size == 120 && Oracle.sequencesOf(Oracle.frame(list(row), false)).size() == (120 - literals) / 3) {
                return row;
            }
        }
        throw new IllegalStateException("no row of threes found");
    }

    private static void oneObjectForAll() {
        CHECKS.words("Adds a frame of CONTENT to the wire");
        // Whatever was packed before, the frame is the same: raw blocks, runs, TREES deep and shallow, wide and narrow.
        int[] wide = new int[17];
        Arrays.fill(wide, 2);
        int[][] contents = {Bytes.row(), Bytes.row(1, 2), Bytes.times(7, 120), range(0, 120), apart(wide, 97),
            Bytes.text("baahaacaaeaadbafbdbcabacbbicbabbdadccagaa"), Bytes.text("aabbccacbaac"), spread(16), spread(17),
            apart(new int[] {6, 0, 4, 0, 0, 4}, 97), apart(new int[] {4, 4, 4, 4, 4, 4}, 97), threes(9),
            repeating(63, 5, 57), repeating(2, 2, 20), Bytes.text("abcdabcdab")};
        for (int[] first : contents) {
            for (int[] second : contents) {
                PackFrames x = new PackFrames();
                for (int[] content : new int[][] {first, second, first}) {
                    x.clear();
                    x.wipe();
                    Bytes.writeAll(x, content);
                    x.pack(true);
                    CHECKS.due("wire of " + Bytes.show(content) + " behind another", Bytes.wireOf(x),
                        Oracle.frame(list(content), true).toString());
                }
            }
        }
    }
}
