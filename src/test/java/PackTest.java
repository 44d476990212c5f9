import java.util.Random;
import java.util.zip.DataFormatException;
import java.util.zip.Inflater;

/** Promises 6 and 14 to 16: what pack() writes, compared with the slow packer, and read by the library. */
public final class PackTest {
    private static final int[] KINDS = new int[3];
    /** One object for all rows, so that nothing of an earlier row may be left in it (it does not count calls). */
    private static final RowPacker USED_AGAIN = new RowPacker();

    public static void main(String[] args) throws DataFormatException {
        compare("nothing", new byte[0]);
        tiedKinds();
        nearAndFar();
        laterAndLonger();
        blockEdges();
        codesOfFifteenBits();
        lengthsOfSevenBits();
        for (int seed = 0; seed < 400; seed++) {
            compare("seed " + seed, someRow(new Random(seed)));
        }
        for (int many = 0; many < 40; many++) {
            compare(many + " bytes", bytesBelow(new Random(many), many, 1 + many % 5));
        }
        largeRows();
        for (int kind = 0; kind < 3; kind++) {
            TestKit.due("blocks of KIND " + kind + " were seen", KINDS[kind] > 20 ? 1 : 0, 1);
        }
        TestKit.finish();
    }

    private static void compare(String what, byte[] tape) throws DataFormatException {
        RowPacker x = USED_AGAIN;
        TestKit.load(x, tape);
        PlainPacker due = new PlainPacker(tape);
        for (int wrapper = 0; wrapper < 3; wrapper++) {
            byte[] want = due.pack(wrapper);
            String name = what + ", wrapper " + wrapper;
            TestKit.due(name + ": pack", x.pack(wrapper), want.length);
            TestKit.due(name + ": size", x.size(), want.length);
            TestKit.dueRow(name, TestKit.outOf(x), want);
            TestKit.due(name + ": fault", x.fault(), 0);
            TestKit.due(name + ": place", x.place(), RowPacker.NONE);
            TestKit.due(name + ": stretches", x.stretches(), due.stretches);
            compareBlocks(name, x, due.blocks);
            if (wrapper < 2) {
                TestKit.dueRow(name + ", read by the library", inflated(TestKit.outOf(x), wrapper, tape.length), tape);
            }
            comeBack(name, x, wrapper, tape);
            TestKit.load(x, tape);
        }
    }

    private static void compareBlocks(String name, RowPacker x, java.util.List<int[]> want) {
        TestKit.due(name + ": blocks", x.blocks(), want.size());
        for (int i = 0; i < Math.min(x.blocks(), want.size()); i++) {
            KINDS[want.get(i)[0]]++;
            for (int k = 0; k < 4; k++) {
                TestKit.due(name + ": block(" + i + ", " + k + ")", x.block(i, k), want.get(i)[k]);
            }
        }
        int behind = x.blocks();
        TestKit.dueThrow(name + ": block behind the last", IndexOutOfBoundsException.class, () -> x.block(behind, 0));
    }

    /** What was packed unpacks to the TAPE, with the same blocks. */
    private static void comeBack(String name, RowPacker x, int wrapper, byte[] tape) {
        int blocks = x.blocks();
        int[] told = new int[4 * blocks];
        for (int i = 0; i < told.length; i++) {
            told[i] = x.block(i / 4, i % 4);
        }
        if (x.size() > 32768) {
            return;
        }
        x.turn();
        TestKit.due(name + ": unpack", x.unpack(wrapper), tape.length);
        TestKit.dueRow(name + ", unpacked", TestKit.outOf(x), tape);
        TestKit.due(name + ": blocks unpacked", x.blocks(), blocks);
        for (int i = 0; i < told.length; i++) {
            TestKit.due(name + ": block unpacked", x.block(i / 4, i % 4), told[i]);
        }
    }

    private static byte[] inflated(byte[] packed, int wrapper, int room) throws DataFormatException {
        Inflater inflater = new Inflater(wrapper == 0);
        inflater.setInput(packed);
        byte[] bytes = new byte[room + 1];
        int many = inflater.inflate(bytes);
        TestKit.due("the library saw the end", inflater.finished() ? 1 : 0, 1);
        inflater.end();
        return java.util.Arrays.copyOf(bytes, many);
    }

    /** Bytes of 9 bits in KIND 1 and of 8 in KIND 0: some numbers of them make both equally long. */
    private static void tiedKinds() throws DataFormatException {
        for (int many = 1; many < 60; many++) {
            byte[] tape = new byte[many];
            for (int i = 0; i < many; i++) {
                tape[i] = (byte) (144 + i);
            }
            compare(many + " bytes above 143", tape);
        }
    }

    /** Stretches about 4,096 back, with noise between. */
    private static void nearAndFar() throws DataFormatException {
        for (int distance = 4094; distance <= 4098; distance++) {
            byte[] tape = new byte[distance + 3];
            Random random = new Random(5);
            for (int i = 0; i < tape.length; i++) {
                tape[i] = (byte) random.nextInt(100);
            }
            for (int i = 0; i < 3; i++) {
                tape[i] = (byte) (200 + i);
                tape[distance + i] = (byte) (200 + i);
            }
            compare("distance " + distance, tape);
        }
        compare("nearest", "abcdXabcdYabcdZ".getBytes());
    }

    private static void laterAndLonger() throws DataFormatException {
        compare("longer", "abc bcde abcde".getBytes());
        compare("as long", "abc bcd abcd".getBytes());
        compare("longer and longer", "abc bcde cdefg defghi abcdefghi".getBytes());
        for (int many = 1; many < 12; many++) {
            compare(many + " times a", "aaaaaaaaaaaaa".substring(0, many).getBytes());
        }
        for (int many : new int[] {257, 258, 259, 260, 261, 262, 516, 517, 518, 519, 520}) {
            compare(many + " zeros", new byte[many]);
        }
    }

    /** 1,023 to 1,025 and 2,047 to 2,049 pieces: no empty block behind a full one. */
    private static void blockEdges() throws DataFormatException {
        byte[] tape = new byte[2049];
        int at = 0;
        // Pairs that never come twice in a row of three: each byte is a piece.
        for (int i = 0; at < tape.length; i++) {
            tape[at] = (byte) (at % 2 == 0 ? i % 251 : i * 7 / 251 + i % 13);
            at++;
        }
        for (int many : new int[] {1023, 1024, 1025, 2047, 2048, 2049}) {
            compare(many + " of a row", java.util.Arrays.copyOf(tape, many));
        }
        Random random = new Random(77);
        byte[] noise = new byte[2049];
        random.nextBytes(noise);
        for (int many : new int[] {1023, 1024, 1025, 2047, 2048, 2049}) {
            byte[] part = java.util.Arrays.copyOf(noise, many);
            PlainPacker due = new PlainPacker(part);
            due.pack(0);
            TestKit.due("blocks of " + many + " bytes of noise", due.blocks.size(), (many + 1023) / 1024);
            compare(many + " bytes of noise", part);
        }
    }

    /** Weights like Fibonacci's numbers ask for codes longer than 15 bits, which then are not to be had. */
    private static void codesOfFifteenBits() throws DataFormatException {
        int[] weights = new int[15];
        weights[0] = 1;
        weights[1] = 1;
        for (int i = 2; i < 15; i++) {
            weights[i] = weights[i - 1] + weights[i - 2];
        }
        int[] lengths = PlainPacker.lengthsByWeights(new int[] {1, 1, 2, 3, 5, 8, 13, 21, 34, 55, 89, 144, 233, 377,
            610, 987, 1597, 2584}, 15);
        TestKit.due("the longest of the slow packer's lengths", java.util.Arrays.stream(lengths).max().getAsInt(), 15);
        for (int seed = 0; seed < 6; seed++) {
            compare("Fibonacci " + seed, shuffled(weights, 1023, new Random(seed)));
        }
    }

    private static byte[] shuffled(int[] weights, int most, Random random) {
        byte[] all = new byte[5000];
        int many = 0;
        for (int i = 0; i < weights.length; i++) {
            for (int k = 0; k < weights[i] && many < most; k++) {
                all[many] = (byte) (i * 11);
                many++;
            }
        }
        for (int i = many - 1; i > 0; i--) {
            int k = random.nextInt(i + 1);
            byte held = all[i];
            all[i] = all[k];
            all[k] = held;
        }
        return java.util.Arrays.copyOf(all, many);
    }

    /** Many different lengths in a row of lengths, so that its own code meets the 7 bits. */
    private static void lengthsOfSevenBits() throws DataFormatException {
        for (int seed = 0; seed < 30; seed++) {
            Random random = new Random(1000 + seed);
            byte[] tape = new byte[1500];
            for (int i = 0; i < tape.length; i++) {
                double x = random.nextDouble();
                tape[i] = (byte) (256 * Math.pow(x, 2 + seed % 7));
            }
            compare("skew " + seed, tape);
        }
    }

    private static byte[] bytesBelow(Random random, int many, int bound) {
        byte[] bytes = new byte[many];
        for (int i = 0; i < many; i++) {
            bytes[i] = (byte) random.nextInt(bound);
        }
        return bytes;
    }

    /** Noise, few letters, copies from before and runs, in turns. */
    private static byte[] someRow(Random random) {
        byte[] bytes = new byte[random.nextInt(3000)];
        int at = 0;
        while (at < bytes.length) {
            int many = Math.min(bytes.length - at, 1 + random.nextInt(400));
            int how = random.nextInt(5);
            int bound = 1 + random.nextInt(how == 0 ? 256 : 6);
            int distance = at == 0 ? 0 : 1 + random.nextInt(at);
            for (int i = at; i < at + many; i++) {
                if (how > 2 && distance > 0) {
                    bytes[i] = bytes[i - distance];
                } else {
                    bytes[i] = (byte) (97 + random.nextInt(bound));
                }
            }
            if (how == 4) {
                bytes[at + random.nextInt(many)] ^= 5;
            }
            at += many;
        }
        return bytes;
    }

    private static void largeRows() throws DataFormatException {
        Random random = new Random(4242);
        compare("32,768 of few letters", bytesBelow(random, 32768, 3));
        compare("32,000 of a hundred", bytesBelow(random, 32000, 100));
        compare("32,768 zeros", new byte[32768]);
        byte[] noise = new byte[32768];
        random.nextBytes(noise);
        compare("32,768 of noise", noise);
    }
}
