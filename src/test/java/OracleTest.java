import java.util.ArrayList;
import java.util.List;
import java.util.Random;

/** Promises 9 and 11 on many rows of bytes, set against the Oracle. */
public final class OracleTest {
    private static final Checks CHECKS = new Checks();
    private static final int[] TYPES = new int[3];
    private static final int[] KINDS = new int[3];
    private static int unpacked;
    private static int refused;

    public static void main(String[] args) {
        Random random = new Random(20261115);
        for (int i = 0; i < 20000; i++) {
            packOne(content(random), random);
        }
        for (int i = 0; i < 30000; i++) {
            unpackMade(random);
        }
        runsOfCalls(random);
        System.out.println("blocks raw " + TYPES[0] + ", runs " + TYPES[1] + ", packs " + TYPES[2]
            + "; literals plain " + KINDS[0] + ", with a tree " + KINDS[2]
            + "; wires unpacked " + unpacked + ", refused " + refused);
        // Literals that are all the same make CONTENT all the same, which is a run: KINDS[1] stays 0.
        for (int n : new int[] {TYPES[0], TYPES[1], TYPES[2], KINDS[0], KINDS[2], unpacked, refused}) {
            CHECKS.due("each kind comes 100 times or more", n >= 100, true);
        }
        CHECKS.end();
    }

    static List<Integer> content(Random random) {
        int kind = random.nextInt(6);
        int size = random.nextInt(4) == 0 ? random.nextInt(12) : random.nextInt(121);
        int first = random.nextInt(4) == 0 ? random.nextInt(256) : 97;
        int width = 1 + random.nextInt(kind == 0 ? 256 : 20);
        List<Integer> row = new ArrayList<>();
        while (row.size() < size) {
            int roll = random.nextInt(100);
            if (kind >= 2 && roll < 12 * kind - 14 && row.size() > 1) {
                int from = random.nextInt(row.size());
                int n = 2 + random.nextInt(roll % 7 == 0 ? 60 : 10);
                for (int i = 0; i < n && row.size() < size; i++) {
                    row.add(row.get(from + i));
                }
            } else {
                int pick = random.nextInt(width);
                if (kind % 2 == 1) {
                    pick = Math.min(pick, random.nextInt(width));
                    pick = Math.min(pick, random.nextInt(width));
                }
                row.add(Math.min(255, first + pick) & 255);
            }
        }
        return row;
    }

    private static void packOne(List<Integer> content, Random random) {
        PackFrames x = new PackFrames();
        Bytes.writeAll(x, Bytes.array(content));
        boolean check = random.nextBoolean();
        List<Integer> frame = Oracle.frame(content, check);
        CHECKS.due("pack(" + check + ") of " + content, x.pack(check), frame.size());
        CHECKS.due("wire for " + content, Bytes.wireOf(x), frame.toString());
        CHECKS.due("CONTENT behind pack", Bytes.contentOf(x), content.toString());
        CHECKS.due("mark() of " + content, x.mark(), Oracle.mark(content));
        x.clear();
        CHECKS.due("unpack() of " + content, x.unpack(), content.size());
        CHECKS.due("CONTENT", Bytes.contentOf(x), content.toString());
        int type = frame.get(4) >> 1 & 3;
        TYPES[type]++;
        if (type == 2) {
            KINDS[frame.get(6) & 3]++;
        }
        // A frame of the packer with one bit turned.
        int k = random.nextInt(frame.size());
        int bit = 1 << random.nextInt(8);
        x.spoil(k, bit);
        frame.set(k, frame.get(k) ^ bit);
        ask(x, frame, new ArrayList<>(content));
    }

    private static void ask(PackFrames x, List<Integer> wire, List<Integer> content) {
        int due = Oracle.unpack(wire, content);
        CHECKS.due("unpack() of " + wire, x.unpack(), due);
        CHECKS.due("CONTENT of " + wire, Bytes.contentOf(x), content.toString());
        if (due >= 0) {
            unpacked++;
        } else {
            refused++;
        }
    }

    private static void unpackMade(Random random) {
        FrameMaker maker = new FrameMaker(random);
        List<Integer> wire = new ArrayList<>();
        List<Integer> outs = new ArrayList<>();
        int frames = 1 + random.nextInt(2);
        for (int i = 0; i < frames; i++) {
            if (random.nextInt(5) == 0) {
                wire.addAll(List.of(83, 2, random.nextInt(256), 90));
            }
            List<Integer> frame = maker.make(120 - outs.size());
            if (wire.size() + frame.size() <= 240) {
                wire.addAll(frame);
                outs.addAll(maker.madeOut());
            }
        }
        PackFrames x = new PackFrames();
        Bytes.putAll(x, Bytes.array(wire));
        CHECKS.due("unpack() of " + wire, x.unpack(), outs.size());
        CHECKS.due("CONTENT of " + wire, Bytes.contentOf(x), outs.toString());
        List<Integer> content = new ArrayList<>();
        Oracle.unpack(wire, content);
        CHECKS.due("the Oracle's CONTENT of " + wire, content.toString(), outs.toString());
        for (int i = 0; i < 12 && !wire.isEmpty(); i++) {
            int k = random.nextInt(wire.size());
            int bits = random.nextBoolean() ? 1 << random.nextInt(8) : random.nextInt(256);
            x.spoil(k, bits);
            wire.set(k, wire.get(k) ^ bits);
            ask(x, wire, content);
            if (random.nextInt(4) > 0) {
                x.spoil(k, bits);
                wire.set(k, wire.get(k) ^ bits);
            }
        }
    }

    /** One object for many calls, so that nothing of an earlier frame may linger. */
    private static void runsOfCalls(Random random) {
        for (int run = 0; run < 150; run++) {
            PackFrames x = new PackFrames();
            List<Integer> content = new ArrayList<>();
            List<Integer> wire = new ArrayList<>();
            for (int i = 0; i < 400; i++) {
                oneCall(x, content, wire, random);
            }
            CHECKS.due("CONTENT behind a run", Bytes.contentOf(x), content.toString());
            CHECKS.due("wire behind a run", Bytes.wireOf(x), wire.toString());
        }
    }

    private static void oneCall(PackFrames x, List<Integer> content, List<Integer> wire, Random random) {
        switch (random.nextInt(7)) {
            case 0:
                int n = random.nextInt(10);
                long bytes = random.nextInt(3) == 0 ? random.nextLong() : 0x6162636162636465L << random.nextInt(9);
                boolean room = n >= 1 && n <= 8 && content.size() + n <= 120;
                CHECKS.due("write", x.write(n, bytes), room);
                for (int i = n - 1; room && i >= 0; i--) {
                    content.add((int) (bytes >> 8 * i) & 255);
                }
                break;
            case 1:
            case 2:
                boolean check = random.nextBoolean();
                List<Integer> frame = Oracle.frame(content, check);
                boolean full = wire.size() + frame.size() > 240;
                CHECKS.due("pack of " + content, x.pack(check), full ? PackFrames.FULL : frame.size());
                if (!full) {
                    wire.addAll(frame);
                }
                break;
            case 3:
                ask(x, wire, content);
                break;
            case 4:
                if (random.nextInt(3) == 0) {
                    x.clear();
                    content.clear();
                }
                if (random.nextInt(4) == 0) {
                    x.wipe();
                    wire.clear();
                }
                break;
            case 5:
                int k = random.nextInt(241) - 1;
                boolean there = k >= 0 && k < wire.size();
                CHECKS.due("spoil(" + k + ", ..)", x.spoil(k, 1), there);
                if (there && random.nextInt(5) > 0) {
                    x.spoil(k, 1);
                } else if (there) {
                    wire.set(k, wire.get(k) ^ 1);
                }
                break;
            default:
                int skipped = random.nextInt(23) - 1;
                boolean can = skipped >= 0 && skipped <= 20 && wire.size() + 2 + skipped <= 240;
                CHECKS.due("skip(" + skipped + ")", x.skip(skipped), can);
                for (int i = -2; can && i < skipped; i++) {
                    wire.add(i == -2 ? 83 : i == -1 ? skipped : 0);
                }
        }
    }
}
