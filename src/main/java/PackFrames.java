import java.util.Arrays;

/** Packs CONTENT into frames on a WIRE and unpacks them again, by the promises of DOC.md. */
public final class PackFrames {
    public static final int NONE = -1;
    public static final int FULL = -2;

    private static final int CONTENT_LIMIT = 120;
    private static final int WIRE_LIMIT = 240;
    private static final int SKIP_LIMIT = 20;
    private static final int LITERAL_LIMIT = 63;
    private static final int SEQUENCE_LIMIT = 40;
    // 39 matches of at most 31 bits each and 12 bits for the first states, with some room.
    private static final int BIT_LIMIT = 1280;
    // 63 literals, their head, two bytes and the bits above.
    private static final int PACK_LIMIT = 256;

    private static final int FRAME_SIGN = 90;
    private static final int SKIP_SIGN = 83;

    private static final int RAW = 0;
    private static final int RUN = 1;
    private static final int PACKED = 2;

    private static final int PLAIN = 0;
    private static final int REPEATED = 1;
    private static final int WITH_TREE = 2;

    private static final int STATES = 16;
    private static final int TREE_SYMBOLS = 17;
    private static final int TREE_DEPTH = 7;
    private static final int SHORTEST_MATCH = 3;

    private static final int[] USUAL_LENGTHS = {3, 2, 2, 1, 1, 1, 1, 1, 1, 1, 1, 1};
    private static final int[] USUAL_WAYS = {2, 2, 2, 2, 2, 2, 2, 2};
    private static final int[] LITERAL_BASES = {0, 1, 2, 3, 4, 5, 6, 7, 8, 10, 12, 16};
    private static final int[] LITERAL_BITS = {0, 0, 0, 0, 0, 0, 0, 0, 1, 1, 2, 6};
    private static final int[] MATCH_BASES = {3, 4, 5, 6, 7, 8, 9, 10, 11, 13, 17, 25};
    private static final int[] MATCH_BITS = {0, 0, 0, 0, 0, 0, 0, 0, 1, 2, 3, 7};

    private final Row contentRow;
    private final Row wireRow;
    private final StateTable usualLengths;
    private final StateTable usualWays;
    private final FrameReader frameReader;
    private final Packer packer;

    public PackFrames() {
        contentRow = new Row(CONTENT_LIMIT);
        wireRow = new Row(WIRE_LIMIT);
        usualLengths = new StateTable(USUAL_LENGTHS);
        usualWays = new StateTable(USUAL_WAYS);
        frameReader = new FrameReader(wireRow);
        packer = new Packer(contentRow, usualLengths, usualWays);
    }

    public boolean write(int n, long bytes) {
        return contentRow.addLowest(n, bytes);
    }

    public void clear() {
        contentRow.size = 0;
    }

    public int content(int k) {
        return contentRow.sizeOrByte(k);
    }

    public boolean put(int n, long bytes) {
        return wireRow.addLowest(n, bytes);
    }

    public void wipe() {
        wireRow.size = 0;
    }

    public int wire(int k) {
        return wireRow.sizeOrByte(k);
    }

    public boolean spoil(int k, int bits) {
        if (k < 0 || k >= wireRow.size) {
            return false;
        }
        wireRow.bytes[k] ^= bits & 255;
        return true;
    }

    public int pack(boolean check) {
        packer.chooseBlock();
        int length = 6 + packer.body.size + (check ? 2 : 0);
        if (!wireRow.hasRoom(length)) {
            return FULL;
        }
        wireRow.add(FRAME_SIGN);
        wireRow.add(check ? 1 : 0);
        wireRow.addPair(contentRow.size);
        wireRow.add((packer.blockLength & 31) << 3 | packer.blockType << 1 | 1);
        wireRow.add(packer.blockLength >> 5);
        wireRow.addRow(packer.body);
        if (check) {
            wireRow.addPair(contentRow.markFrom(0));
        }
        return length;
    }

    public boolean skip(int n) {
        if (n < 0 || n > SKIP_LIMIT || !wireRow.hasRoom(n + 2)) {
            return false;
        }
        wireRow.add(SKIP_SIGN);
        wireRow.add(n);
        wireRow.addTimes(0, n);
        return true;
    }

    public int unpack() {
        frameReader.out.size = 0;
        int place = 0;
        // An item has two bytes or more, so there are fewer items than bytes.
        for (int items = 0; items < WIRE_LIMIT && place < wireRow.size; items++) {
            boolean frame = wireRow.bytes[place] == FRAME_SIGN;
            int next = frame ? frameReader.placeBehindFrame(place) : placeBehindSkip(place);
            if (next == NONE) {
                return -1 - place;
            }
            place = next;
        }
        contentRow.size = 0;
        contentRow.addRow(frameReader.out);
        return contentRow.size;
    }

    private int placeBehindSkip(int place) {
        if (wireRow.bytes[place] != SKIP_SIGN || place + 1 >= wireRow.size) {
            return NONE;
        }
        int behind = place + 2 + wireRow.bytes[place + 1];
        return behind <= wireRow.size ? behind : NONE;
    }

    public int mark() {
        return contentRow.markFrom(0);
    }

    public int usual(int which, int s, int what) {
        if (which < 0 || which > 1 || s < 0 || s >= STATES) {
            return NONE;
        }
        StateTable table = which == 0 ? usualLengths : usualWays;
        switch (what) {
            case 0:
                return table.codes[s];
            case 1:
                return table.widths[s];
            case 2:
                return table.bases[s];
            default:
                return NONE;
        }
    }

    /** A row of bytes, each a number 0 .. 255, that never grows beyond its limit. */
    private static final class Row {
        final int[] bytes;
        int size;

        Row(int limit) {
            bytes = new int[limit];
        }

        boolean hasRoom(int n) {
            return n <= bytes.length - size;
        }

        void add(int b) {
            if (size < bytes.length) {
                bytes[size] = b & 255;
                size++;
            }
        }

        void addPair(int number) {
            add(number);
            add(number >> 8);
        }

        void addTimes(int b, int n) {
            for (int i = 0; i < n; i++) {
                add(b);
            }
        }

        void addRow(Row other) {
            for (int i = 0; i < other.size; i++) {
                add(other.bytes[i]);
            }
        }

        boolean addLowest(int n, long number) {
            if (n < 1 || n > 8 || !hasRoom(n)) {
                return false;
            }
            for (int i = n - 1; i >= 0; i--) {
                add((int) (number >>> (8 * i)));
            }
            return true;
        }

        int sizeOrByte(int k) {
            if (k == -1) {
                return size;
            }
            return k >= 0 && k < size ? bytes[k] : NONE;
        }

        boolean isOneByteOnly() {
            for (int i = 1; i < size; i++) {
                if (bytes[i] != bytes[0]) {
                    return false;
                }
            }
            return size > 0;
        }

        int markFrom(int start) {
            int h = size - start;
            for (int i = start; i < size; i++) {
                h = (h ^ bytes[i]) * 16777619;
            }
            return (h ^ (h >>> 16)) & 65535;
        }
    }

    /** A table of states with their codes, and the state in which its reader is. */
    private static final class StateTable {
        final int[] usualCounts;
        final int[] codes = new int[STATES];
        final int[] widths = new int[STATES];
        final int[] bases = new int[STATES];
        final int[] nextX;
        int stateBits;
        int state;

        StateTable(int[] usualCounts) {
            this.usualCounts = usualCounts;
            nextX = new int[usualCounts.length];
            keepCounts(usualCounts, usualCounts.length);
        }

        void keepOne(int code) {
            stateBits = 0;
            codes[0] = code;
            widths[0] = 0;
            bases[0] = 0;
        }

        /** The first n counts must be 16 in all. */
        void keepCounts(int[] counts, int n) {
            stateBits = 4;
            int place = 0;
            for (int code = 0; code < n; code++) {
                nextX[code] = counts[code];
                for (int i = 0; i < counts[code]; i++) {
                    codes[place] = code;
                    place = (place + 13) & 15;
                }
            }
            for (int s = 0; s < STATES; s++) {
                int x = nextX[codes[s]];
                nextX[codes[s]]++;
                int width = 0;
                while (width < 4 && x << width < 16) {
                    width++;
                }
                widths[s] = width;
                bases[s] = (x << width) - 16;
            }
        }

        int leastStateOf(int code) {
            for (int s = 0; s < STATES; s++) {
                if (codes[s] == code) {
                    return s;
                }
            }
            return 0;
        }

        int stateBefore(int code, int next) {
            for (int s = 0; s < STATES; s++) {
                if (codes[s] == code && next >= bases[s] && next < bases[s] + (1 << widths[s])) {
                    return s;
                }
            }
            return 0;
        }

        int code() {
            return codes[state];
        }

        int width() {
            return widths[state];
        }

        void goOn(int more) {
            state = (bases[state] + more) & 15;
        }
    }

    /** The weights of up to 17 symbols, and the cells that each of them has. */
    private static final class Tree {
        final int[] weights = new int[TREE_SYMBOLS];
        final int[] starts = new int[TREE_SYMBOLS];
        final int[] owners = new int[1 << TREE_DEPTH];
        int first;
        int depth;

        /** Finds the weight of symbol n from those ahead of it; false if they make no tree. */
        boolean complete(int n) {
            int sum = 0;
            for (int i = 0; i < n; i++) {
                if (weights[i] > TREE_DEPTH) {
                    return false;
                }
                sum += cellsOf(i);
            }
            if (sum == 0 || sum >= 1 << TREE_DEPTH) {
                return false;
            }
            depth = 32 - Integer.numberOfLeadingZeros(sum);
            int rest = (1 << depth) - sum;
            if (Integer.bitCount(rest) != 1) {
                return false;
            }
            weights[n] = 32 - Integer.numberOfLeadingZeros(rest);
            return true;
        }

        private int cellsOf(int symbol) {
            return weights[symbol] == 0 ? 0 : 1 << (weights[symbol] - 1);
        }

        void dealCells(int n) {
            int cell = 0;
            for (int weight = 1; weight <= TREE_DEPTH; weight++) {
                for (int i = 0; i <= n; i++) {
                    if (weights[i] == weight) {
                        starts[i] = cell;
                        int behind = cell + cellsOf(i);
                        for (; cell < behind && cell < owners.length; cell++) {
                            owners[cell] = i;
                        }
                    }
                }
            }
        }

        int bitsOf(int symbol) {
            return depth + 1 - weights[symbol];
        }

        void addSymbol(int symbol, BitRow bits) {
            bits.add(starts[symbol] >> (weights[symbol] - 1), bitsOf(symbol));
        }
    }

    /** Joins the two of least count again and again, to find how long each byte's bits are. */
    private static final class Joiner {
        // Bytes stand first and joined ones behind them in the order of their making,
        // so that of equal counts the one at the lower place always goes first.
        static final int PLACES = 2 * TREE_SYMBOLS;
        final int[] counts = new int[PLACES];
        final int[] parents = new int[PLACES];
        final int[] lengths = new int[PLACES];
        int greatest;

        void countBytes(Row row, int least) {
            Arrays.fill(counts, 0);
            for (int i = 0; i < row.size; i++) {
                int symbol = row.bytes[i] - least;
                if (symbol >= 0 && symbol < TREE_SYMBOLS) {
                    counts[symbol]++;
                }
            }
        }

        /** Leaves length 0 for each byte that is not there; wants two bytes or more. */
        void findLengths() {
            Arrays.fill(parents, 0);
            Arrays.fill(lengths, 0);
            int joined = TREE_SYMBOLS;
            int all = TREE_SYMBOLS + countThere() - 1;
            while (joined < all && joined < PLACES) {
                counts[joined] = giveAway(joined) + giveAway(joined);
                joined++;
            }
            greatest = 0;
            for (int i = joined - 2; i >= 0; i--) {
                if (parents[i] > 0) {
                    lengths[i] = lengths[parents[i]] + 1;
                    greatest = Math.max(greatest, lengths[i]);
                }
            }
        }

        private int countThere() {
            int there = 0;
            for (int i = 0; i < TREE_SYMBOLS; i++) {
                if (counts[i] > 0) {
                    there++;
                }
            }
            return there;
        }

        private int giveAway(int parent) {
            int least = 0;
            for (int i = 1; i < parent; i++) {
                if (counts[i] > 0 && (counts[least] == 0 || counts[i] < counts[least])) {
                    least = i;
                }
            }
            int count = counts[least];
            counts[least] = 0;
            parents[least] = parent;
            return count;
        }
    }

    /** The bits of a STREAM that is being made, the first one at place 0. */
    private static final class BitRow {
        final int[] bits = new int[BIT_LIMIT];
        int size;

        void add(int number, int n) {
            for (int i = n - 1; i >= 0; i--) {
                if (size < bits.length) {
                    bits[size] = number >> i & 1;
                    size++;
                }
            }
        }

        int bytesNeeded() {
            return size / 8 + 1;
        }

        void addStreamTo(Row row) {
            for (int k = 0; k < bytesNeeded(); k++) {
                int b = 0;
                for (int i = 7; i >= 0; i--) {
                    b = b << 1 | bitOver(8 * k + i);
                }
                row.add(b);
            }
        }

        private int bitOver(int below) {
            if (below >= size) {
                return below == size ? 1 : 0;
            }
            return bits[size - 1 - below];
        }
    }

    /** The three latest ways back of a frame. */
    private static final class Repeats {
        int r1;
        int r2;
        int r3;

        void begin() {
            r1 = 1;
            r2 = 4;
            r3 = 8;
        }

        int wayFor(int value, int literals) {
            if (value > 3) {
                return value - 3;
            }
            switch (literals == 0 ? value + 1 : value) {
                case 1:
                    return r1;
                case 2:
                    return r2;
                case 3:
                    return r3;
                default:
                    return r1 - 1;
            }
        }

        void keepWay(int value, int literals) {
            int way = wayFor(value, literals);
            int i = literals == 0 ? value + 1 : value;
            if (i == 1) {
                return;
            }
            if (i > 2) {
                r3 = r2;
            }
            r2 = r1;
            r1 = way;
        }

        int leastValueFor(int way, int literals) {
            for (int value = 1; value <= 3; value++) {
                if (wayFor(value, literals) == way) {
                    return value;
                }
            }
            return way + 3;
        }
    }

    /** Takes bytes, and the bits of a STREAM, from a part of the wire; once unsound it stays so. */
    private static final class WireReader {
        final Row row;
        int place;
        int limit;
        boolean sound;
        int streamStart;
        int bitsLeft;

        WireReader(Row row) {
            this.row = row;
        }

        void begin(int start) {
            place = start;
            limit = row.size;
            sound = true;
            bitsLeft = 0;
        }

        void refuse() {
            sound = false;
        }

        int bytesLeft() {
            return limit - place;
        }

        int takeByte() {
            if (place >= limit) {
                sound = false;
                return 0;
            }
            place++;
            return row.bytes[place - 1];
        }

        int takePair() {
            int lower = takeByte();
            return lower + 256 * takeByte();
        }

        /** Takes n numbers 0 .. 15, two from a byte; a lower half that is left must be 0. */
        void takeHalves(int[] numbers, int n) {
            if ((n + 1) / 2 > limit - place) {
                sound = false;
                return;
            }
            for (int i = 0; i < n; i++) {
                int b = row.bytes[place + i / 2];
                numbers[i] = i % 2 == 0 ? b >> 4 : b & 15;
            }
            if (n % 2 == 1 && (row.bytes[place + n / 2] & 15) != 0) {
                sound = false;
            }
            place += (n + 1) / 2;
        }

        /** The next bytes become the STREAM from which bits are taken. */
        void beginStream(int bytes) {
            bitsLeft = 0;
            if (bytes < 1 || bytes > bytesLeft() || row.bytes[place + bytes - 1] == 0) {
                sound = false;
                return;
            }
            int last = row.bytes[place + bytes - 1];
            streamStart = place;
            bitsLeft = 8 * (bytes - 1) + 31 - Integer.numberOfLeadingZeros(last);
            place += bytes;
        }

        void endStream() {
            if (bitsLeft != 0) {
                sound = false;
            }
        }

        /** The next n bits, with 0s behind the last one, none of them taken. */
        int nextBits(int n) {
            int number = 0;
            for (int i = bitsLeft - 1; i >= bitsLeft - n; i--) {
                int bit = i < 0 ? 0 : row.bytes[streamStart + (i >> 3)] >> (i & 7) & 1;
                number = number << 1 | bit;
            }
            return number;
        }

        void dropBits(int n) {
            if (n > bitsLeft) {
                sound = false;
            } else {
                bitsLeft -= n;
            }
        }

        int takeBits(int n) {
            int number = nextBits(n);
            dropBits(n);
            return number;
        }
    }

    /** Takes the sequences of a PACK, one by one, and keeps the tables of a frame. */
    private static final class SequenceReader {
        final WireReader reader;
        final StateTable literalTable = new StateTable(USUAL_LENGTHS);
        final StateTable wayTable = new StateTable(USUAL_WAYS);
        final StateTable matchTable = new StateTable(USUAL_LENGTHS);
        final int[] counts = new int[USUAL_LENGTHS.length];
        boolean tablesKnown;
        int literals;
        int value;
        int match;

        SequenceReader(WireReader reader) {
            this.reader = reader;
        }

        void takeTables() {
            int modes = reader.takeByte();
            if ((modes & 3) != 0) {
                reader.refuse();
            }
            takeTable(literalTable, modes >> 6);
            takeTable(wayTable, modes >> 4 & 3);
            takeTable(matchTable, modes >> 2 & 3);
            // Every PACK with sequences settles all three tables, so one sign serves them all.
            tablesKnown = true;
        }

        private void takeTable(StateTable table, int mode) {
            switch (mode) {
                case 0:
                    table.keepCounts(table.usualCounts, table.usualCounts.length);
                    break;
                case 1:
                    takeOneCode(table);
                    break;
                case 2:
                    takeCounts(table);
                    break;
                default:
                    if (!tablesKnown) {
                        reader.refuse();
                    }
            }
        }

        private void takeOneCode(StateTable table) {
            int code = reader.takeByte();
            if (code < table.usualCounts.length) {
                table.keepOne(code);
            } else {
                reader.refuse();
            }
        }

        private void takeCounts(StateTable table) {
            int n = reader.takeByte();
            if (n < 1 || n > table.usualCounts.length) {
                reader.refuse();
                return;
            }
            reader.takeHalves(counts, n);
            int sum = 0;
            for (int i = 0; i < n; i++) {
                sum += counts[i];
            }
            if (sum == STATES) {
                table.keepCounts(counts, n);
            } else {
                reader.refuse();
            }
        }

        void takeFirstStates() {
            literalTable.state = reader.takeBits(literalTable.stateBits);
            wayTable.state = reader.takeBits(wayTable.stateBits);
            matchTable.state = reader.takeBits(matchTable.stateBits);
        }

        void takeNextStates() {
            literalTable.goOn(reader.takeBits(literalTable.width()));
            matchTable.goOn(reader.takeBits(matchTable.width()));
            wayTable.goOn(reader.takeBits(wayTable.width()));
        }

        void takeSequence() {
            int wayCode = wayTable.code();
            value = (1 << wayCode) + reader.takeBits(wayCode);
            int matchCode = matchTable.code();
            match = MATCH_BASES[matchCode] + reader.takeBits(MATCH_BITS[matchCode]);
            int literalCode = literalTable.code();
            literals = LITERAL_BASES[literalCode] + reader.takeBits(LITERAL_BITS[literalCode]);
        }
    }

    /** Reads frames and puts their OUTs one behind the other. */
    private static final class FrameReader {
        final Row out = new Row(CONTENT_LIMIT);
        final WireReader reader;
        final SequenceReader sequences;
        final Repeats repeats = new Repeats();
        final Tree tree = new Tree();
        final Row literals = new Row(LITERAL_LIMIT);
        boolean treeKnown;
        int literalsUsed;
        int frameStart;
        int frameEnd;

        FrameReader(Row wireRow) {
            reader = new WireReader(wireRow);
            sequences = new SequenceReader(reader);
        }

        /** NONE if the frame is not as it must be, or OUT has no room for it. */
        int placeBehindFrame(int place) {
            reader.begin(place + 1);
            int check = reader.takeByte();
            int size = reader.takePair();
            if (check > 1 || !out.hasRoom(size)) {
                return NONE;
            }
            beginFrame(size);
            boolean last = false;
            // A block has two bytes or more, so there are fewer blocks than bytes.
            for (int blocks = 0; blocks < WIRE_LIMIT && !last && reader.sound; blocks++) {
                int x = reader.takeByte();
                int length = (x >> 3) + 32 * reader.takeByte();
                last = (x & 1) == 1;
                switch (x >> 1 & 3) {
                    case RAW:
                        readRaw(length);
                        break;
                    case RUN:
                        readRun(length);
                        break;
                    case PACKED:
                        readPack(length);
                        break;
                    default:
                        reader.refuse();
                }
            }
            if (!last || out.size != frameEnd) {
                return NONE;
            }
            if (check == 1 && reader.takePair() != out.markFrom(frameStart)) {
                return NONE;
            }
            return reader.sound ? reader.place : NONE;
        }

        private void beginFrame(int size) {
            frameStart = out.size;
            frameEnd = out.size + size;
            treeKnown = false;
            sequences.tablesKnown = false;
            repeats.begin();
        }

        private boolean fits(int n) {
            return n <= frameEnd - out.size;
        }

        private void readRaw(int length) {
            if (length > reader.bytesLeft() || !fits(length)) {
                reader.refuse();
                return;
            }
            for (int i = 0; i < length; i++) {
                out.add(reader.takeByte());
            }
        }

        private void readRun(int length) {
            int b = reader.takeByte();
            if (fits(length)) {
                out.addTimes(b, length);
            } else {
                reader.refuse();
            }
        }

        private void readPack(int length) {
            if (length > reader.bytesLeft()) {
                reader.refuse();
                return;
            }
            reader.limit = reader.place + length;
            readLiterals();
            int count = reader.takeByte();
            if (count > 0) {
                sequences.takeTables();
                readSequences(count);
            }
            putLiterals(literals.size - literalsUsed);
            if (reader.bytesLeft() != 0) {
                reader.refuse();
            }
            reader.limit = reader.row.size;
        }

        private void readLiterals() {
            int head = reader.takeByte();
            int count = head >> 2;
            literals.size = 0;
            literalsUsed = 0;
            switch (head & 3) {
                case PLAIN:
                    for (int i = 0; i < count; i++) {
                        literals.add(reader.takeByte());
                    }
                    break;
                case REPEATED:
                    literals.addTimes(reader.takeByte(), count);
                    break;
                case WITH_TREE:
                    readTree();
                    readSymbols(count);
                    break;
                default:
                    readSymbols(count);
            }
        }

        private void readTree() {
            treeKnown = false;
            tree.first = reader.takeByte();
            int n = reader.takeByte();
            if (n < 1 || n >= TREE_SYMBOLS || tree.first + n > 255) {
                return;
            }
            reader.takeHalves(tree.weights, n);
            if (tree.complete(n)) {
                tree.dealCells(n);
                treeKnown = true;
            }
        }

        private void readSymbols(int count) {
            if (!treeKnown) {
                reader.refuse();
                return;
            }
            reader.beginStream(reader.takeByte());
            for (int i = 0; i < count && reader.sound; i++) {
                int symbol = tree.owners[reader.nextBits(tree.depth)];
                reader.dropBits(tree.bitsOf(symbol));
                literals.add(tree.first + symbol);
            }
            reader.endStream();
        }

        private void readSequences(int count) {
            reader.beginStream(reader.bytesLeft());
            sequences.takeFirstStates();
            for (int i = 0; i < count && reader.sound; i++) {
                if (i > 0) {
                    sequences.takeNextStates();
                }
                sequences.takeSequence();
                putLiterals(sequences.literals);
                putMatch();
            }
            reader.endStream();
        }

        private void putLiterals(int n) {
            if (n > literals.size - literalsUsed || !fits(n)) {
                reader.refuse();
                return;
            }
            for (int i = 0; i < n; i++) {
                out.add(literals.bytes[literalsUsed + i]);
            }
            literalsUsed += n;
        }

        private void putMatch() {
            int way = repeats.wayFor(sequences.value, sequences.literals);
            if (way < 1 || way > out.size - frameStart || !fits(sequences.match)) {
                reader.refuse();
                return;
            }
            repeats.keepWay(sequences.value, sequences.literals);
            for (int i = 0; i < sequences.match; i++) {
                out.add(out.bytes[out.size - way]);
            }
        }
    }

    /** Divides CONTENT into literals and matches. */
    private static final class MatchFinder {
        final Row row;
        final Row literals = new Row(CONTENT_LIMIT);
        final int[] runs = new int[SEQUENCE_LIMIT];
        final int[] values = new int[SEQUENCE_LIMIT];
        final int[] matches = new int[SEQUENCE_LIMIT];
        final Repeats repeats = new Repeats();
        int count;
        int longestFrom;
        int longest;

        MatchFinder(Row row) {
            this.row = row;
        }

        void divide() {
            literals.size = 0;
            count = 0;
            repeats.begin();
            int run = 0;
            for (int place = 0; place < row.size; place++) {
                findLongest(place);
                if (longest >= SHORTEST_MATCH) {
                    addSequence(run, place - longestFrom);
                    run = 0;
                    place += longest - 1;
                } else {
                    literals.add(row.bytes[place]);
                    run++;
                }
            }
        }

        private void findLongest(int place) {
            longest = 0;
            longestFrom = 0;
            for (int from = 0; from < place; from++) {
                int same = 0;
                while (place + same < row.size && row.bytes[from + same] == row.bytes[place + same]) {
                    same++;
                }
                if (same >= longest) {
                    longest = same;
                    longestFrom = from;
                }
            }
        }

        private void addSequence(int run, int way) {
            if (count >= SEQUENCE_LIMIT) {
                return;
            }
            int value = repeats.leastValueFor(way, run);
            repeats.keepWay(value, run);
            runs[count] = run;
            values[count] = value;
            matches[count] = longest;
            count++;
        }
    }

    /** Chooses the one block of a frame of CONTENT and makes what stands in it. */
    private static final class Packer {
        final Row row;
        final MatchFinder found;
        final StateTable lengths;
        final StateTable ways;
        final Row body = new Row(PACK_LIMIT);
        final BitRow bits = new BitRow();
        final Joiner joiner = new Joiner();
        final Tree tree = new Tree();
        final int[] literalStates = new int[SEQUENCE_LIMIT];
        final int[] wayStates = new int[SEQUENCE_LIMIT];
        final int[] matchStates = new int[SEQUENCE_LIMIT];
        int blockType;
        int blockLength;

        Packer(Row row, StateTable lengths, StateTable ways) {
            this.row = row;
            this.lengths = lengths;
            this.ways = ways;
            found = new MatchFinder(row);
        }

        void chooseBlock() {
            body.size = 0;
            blockLength = row.size;
            if (row.isOneByteOnly()) {
                blockType = RUN;
                body.add(row.bytes[0]);
                return;
            }
            found.divide();
            if (found.literals.size <= LITERAL_LIMIT) {
                addLiterals();
                addSequences();
                if (body.size < row.size) {
                    blockType = PACKED;
                    blockLength = body.size;
                    return;
                }
            }
            blockType = RAW;
            body.size = 0;
            body.addRow(row);
        }

        private void addLiterals() {
            Row literals = found.literals;
            if (literals.size > 1 && literals.isOneByteOnly()) {
                body.add(literals.size << 2 | REPEATED);
                body.add(literals.bytes[0]);
            } else if (literals.size < 2 || !addedWithTree(literals)) {
                body.add(literals.size << 2 | PLAIN);
                body.addRow(literals);
            }
        }

        private boolean addedWithTree(Row literals) {
            int least = literals.bytes[0];
            int most = least;
            for (int i = 1; i < literals.size; i++) {
                least = Math.min(least, literals.bytes[i]);
                most = Math.max(most, literals.bytes[i]);
            }
            int n = most - least;
            if (n >= TREE_SYMBOLS || !growTree(literals, least, n)) {
                return false;
            }
            bits.size = 0;
            for (int i = 0; i < literals.size; i++) {
                tree.addSymbol(literals.bytes[i] - least, bits);
            }
            if (2 + (n + 1) / 2 + 1 + bits.bytesNeeded() >= literals.size) {
                return false;
            }
            body.add(literals.size << 2 | WITH_TREE);
            addTree(n);
            body.add(bits.bytesNeeded());
            bits.addStreamTo(body);
            return true;
        }

        private boolean growTree(Row literals, int least, int n) {
            joiner.countBytes(literals, least);
            joiner.findLengths();
            if (joiner.greatest > TREE_DEPTH) {
                return false;
            }
            tree.first = least;
            for (int i = 0; i <= n; i++) {
                int length = joiner.lengths[i];
                tree.weights[i] = length == 0 ? 0 : joiner.greatest + 1 - length;
            }
            if (!tree.complete(n)) {
                return false;
            }
            tree.dealCells(n);
            return true;
        }

        private void addTree(int n) {
            body.add(tree.first);
            body.add(n);
            for (int i = 0; i < n; i += 2) {
                int lower = i + 1 < n ? tree.weights[i + 1] : 0;
                body.add(tree.weights[i] << 4 | lower);
            }
        }

        private void addSequences() {
            body.add(found.count);
            if (found.count == 0) {
                return;
            }
            body.add(0);
            chooseStates();
            bits.size = 0;
            bits.add(literalStates[0], 4);
            bits.add(wayStates[0], 4);
            bits.add(matchStates[0], 4);
            for (int i = 0; i < found.count; i++) {
                if (i > 0) {
                    addNextState(lengths, literalStates, i);
                    addNextState(lengths, matchStates, i);
                    addNextState(ways, wayStates, i);
                }
                addValues(i);
            }
            bits.addStreamTo(body);
        }

        private void chooseStates() {
            for (int i = found.count - 1; i >= 0; i--) {
                chooseState(lengths, codeOf(LITERAL_BASES, found.runs[i]), literalStates, i);
                chooseState(lengths, codeOf(MATCH_BASES, found.matches[i]), matchStates, i);
                chooseState(ways, wayCodeOf(found.values[i]), wayStates, i);
            }
        }

        private void chooseState(StateTable table, int code, int[] states, int i) {
            if (i == found.count - 1) {
                states[i] = table.leastStateOf(code);
            } else {
                states[i] = table.stateBefore(code, states[i + 1]);
            }
        }

        private void addNextState(StateTable table, int[] states, int i) {
            int before = states[i - 1];
            bits.add(states[i] - table.bases[before], table.widths[before]);
        }

        private void addValues(int i) {
            int wayCode = wayCodeOf(found.values[i]);
            bits.add(found.values[i] - (1 << wayCode), wayCode);
            int matchCode = codeOf(MATCH_BASES, found.matches[i]);
            bits.add(found.matches[i] - MATCH_BASES[matchCode], MATCH_BITS[matchCode]);
            int literalCode = codeOf(LITERAL_BASES, found.runs[i]);
            bits.add(found.runs[i] - LITERAL_BASES[literalCode], LITERAL_BITS[literalCode]);
        }

        private static int wayCodeOf(int value) {
            return 31 - Integer.numberOfLeadingZeros(value);
        }

        private static int codeOf(int[] leastOnes, int length) {
            int code = 0;
            for (int i = 1; i < leastOnes.length; i++) {
                if (leastOnes[i] <= length) {
                    code = i;
                }
            }
            return code;
        }
    }
}
