import java.util.ArrayList;
import java.util.Arrays;
import java.util.List;
import java.util.Random;

/** Promises 7 to 9 and 14 to 16 once more: rows made by chance, good and damaged, against the slow unpacker. */
public final class DamageTest {
    private static final int[] FAULTS = new int[15];
    /** One object for all rows, so that nothing of an earlier row may be left in it (it does not count calls). */
    private static final RowPacker USED_AGAIN = new RowPacker();

    public static void main(String[] args) {
        for (int seed = 0; seed < 12000; seed++) {
            Random random = new Random(seed);
            int wrapper = random.nextInt(3);
            byte[] tape = wrapped(random, wrapper);
            compare("seed " + seed, tape, wrapper);
            for (int i = 0; i < 4; i++) {
                compare("seed " + seed + ", damage " + i, damaged(random, tape), wrapper);
            }
        }
        for (int fault = 0; fault < FAULTS.length; fault++) {
            TestKit.due("fault " + fault + " was seen often", FAULTS[fault] >= 20 || fault == 10 ? 1 : 0, 1);
        }
        TestKit.finish();
    }

    private static void compare(String what, byte[] tape, int wrapper) {
        RowPacker x = USED_AGAIN;
        TestKit.load(x, tape);
        PlainUnpacker due = new PlainUnpacker(tape, wrapper);
        FAULTS[due.fault]++;
        TestKit.due(what + ": unpack", x.unpack(wrapper), due.fault == 0 ? due.unpacked.length : -1);
        TestKit.due(what + ": fault", x.fault(), due.fault);
        TestKit.due(what + ": place", x.place(), due.place);
        TestKit.due(what + ": stretches", x.stretches(), due.stretches);
        TestKit.due(what + ": blocks", x.blocks(), due.blocks.size());
        TestKit.dueRow(what, TestKit.outOf(x), due.unpacked);
        for (int i = 0; i < Math.min(64, Math.min(x.blocks(), due.blocks.size())); i++) {
            for (int k = 0; k < 4; k++) {
                TestKit.due(what + ": block(" + i + ", " + k + ")", x.block(i, k), due.blocks.get(i)[k]);
            }
        }
    }

    private static byte[] damaged(Random random, byte[] tape) {
        int how = random.nextInt(4);
        if (how == 0 && tape.length > 0) {
            return Arrays.copyOf(tape, random.nextInt(tape.length));
        }
        if (how == 1) {
            return Arrays.copyOf(tape, tape.length + 1 + random.nextInt(3));
        }
        byte[] other = tape.clone();
        int bits = 1 + random.nextInt(3);
        for (int i = 0; i < bits && other.length > 0; i++) {
            // The first bytes tell most: they are damaged more often.
            int at = random.nextInt(random.nextBoolean() ? other.length : Math.min(other.length, 30));
            other[at] ^= (byte) (1 << random.nextInt(8));
        }
        return other;
    }

    private static byte[] wrapped(Random random, int wrapper) {
        if (wrapper == 0) {
            return packedRow(random).row();
        }
        if (wrapper == 1) {
            byte[] packed = packedRow(random).row();
            PlainUnpacker inside = new PlainUnpacker(packed, 0);
            java.util.zip.Adler32 sum = new java.util.zip.Adler32();
            sum.update(inside.unpacked);
            long value = sum.getValue();
            return TestKit.join(TestKit.row(120, 156), packed, TestKit.row((int) (value >> 24), (int) (value >> 16),
                (int) (value >> 8), (int) value));
        }
        byte[] all = new byte[0];
        for (int left = 1 + random.nextInt(3); left > 0; left--) {
            all = TestKit.join(all, member(random));
        }
        return all;
    }

    private static byte[] member(Random random) {
        int marks = random.nextInt(random.nextInt(8) == 0 ? 64 : 32);
        byte[] head = TestKit.row(31, 139, 8, marks, 1, 2, 3, 4, 5, 6);
        if ((marks & 4) != 0) {
            int many = random.nextInt(5);
            head = TestKit.join(head, TestKit.row(many, 0), new byte[many]);
        }
        if ((marks & 8) != 0) {
            head = TestKit.join(head, TestKit.row(9, 8, 7, 0));
        }
        if ((marks & 16) != 0) {
            head = TestKit.join(head, TestKit.row(9, 0));
        }
        java.util.zip.CRC32 sum = new java.util.zip.CRC32();
        sum.update(head);
        if ((marks & 2) != 0) {
            head = TestKit.join(head, TestKit.row((int) sum.getValue(), (int) (sum.getValue() >> 8)));
        }
        byte[] packed = packedRow(random).row();
        PlainUnpacker inside = new PlainUnpacker(packed, 0);
        sum.reset();
        sum.update(inside.unpacked);
        return TestKit.join(head, packed,
            new Bits().number((int) sum.getValue(), 32).number(inside.unpacked.length, 32).row());
    }

    private static Bits packedRow(Random random) {
        Bits bits = new Bits();
        int[] bytes = {0};
        for (int left = random.nextInt(4); left >= 0; left--) {
            int last = left == 0 ? 1 : 0;
            int kind = random.nextInt(40) == 0 ? 3 : random.nextInt(3);
            if (kind == 0) {
                int[] values = random.ints(random.nextInt(9), 0, 256).toArray();
                bits.plain(last, values);
                bytes[0] += values.length;
            } else if (kind == 2) {
                bits.head(last, 2);
                madeBlock(random, bits, bytes);
            } else {
                bits.head(last, kind);
                int[] letters = new int[288];
                for (int i = 0; i < 288; i++) {
                    letters[i] = i < 144 ? 8 : i < 256 ? 9 : i < 280 ? 7 : 8;
                }
                int[] distances = new int[32];
                Arrays.fill(distances, 5);
                symbols(random, bits, letters, distances, bytes);
            }
        }
        return bits;
    }

    /** Lengths of a full code over some of the symbols, one of them given. */
    private static int[] fullCode(Random random, int symbols, int coded, int most, int given) {
        List<Integer> leaves = new ArrayList<>(List.of(0));
        while (leaves.size() < coded) {
            int i = random.nextInt(leaves.size());
            if (leaves.get(i) < most) {
                int length = leaves.remove(i) + 1;
                leaves.add(length);
                leaves.add(length);
            }
        }
        int[] lengths = new int[symbols];
        int at = given;
        for (int length : leaves) {
            while (lengths[at] != 0) {
                at = random.nextInt(symbols);
            }
            lengths[at] = length;
        }
        return lengths;
    }

    private static void madeBlock(Random random, Bits bits, int[] bytes) {
        int letters = 257 + random.nextInt(30);
        int distances = 1 + random.nextInt(30);
        int[] letterLengths = fullCode(random, letters, 2 + random.nextInt(60), 15, 256);
        int[] distanceLengths = new int[distances];
        int how = random.nextInt(4);
        if (how == 0) {
            distanceLengths[random.nextInt(distances)] = random.nextInt(3) == 0 ? 2 : 1;
        } else if (how > 1 && distances > 1) {
            distanceLengths = fullCode(random, distances, 2 + random.nextInt(distances - 1), 15, 0);
        }
        if (random.nextInt(30) == 0) {
            letterLengths[random.nextInt(letters)] = random.nextInt(16);
        }
        int[] row = Arrays.copyOf(letterLengths, letters + distances);
        System.arraycopy(distanceLengths, 0, row, letters, distances);
        List<Integer> told = tellByChance(random, row);
        int[] lengths = fullCode(random, 19, 19, 7, 16);
        bits.number(random.nextInt(40) == 0 ? 30 : letters - 257, 5);
        bits.number(random.nextInt(40) == 0 ? 31 : distances - 1, 5);
        bits.number(15, 4);
        for (int symbol : Bits.ORDER) {
            bits.number(lengths[symbol], 3);
        }
        bits.lengths(lengths, told);
        symbols(random, bits, letterLengths, distanceLengths, bytes);
    }

    /** Another way of telling each time: runs are told short, in parts, or as they are; now and then wrongly. */
    private static List<Integer> tellByChance(Random random, int[] row) {
        List<Integer> told = new ArrayList<>();
        if (random.nextInt(40) == 0) {
            told.add(16);
        }
        int i = 0;
        while (i < row.length) {
            int same = 1;
            while (i + same < row.length && row[i + same] == row[i] && same < 138) {
                same++;
            }
            boolean wrong = random.nextInt(800) == 0;
            int some = 1 + random.nextInt(same) + (wrong ? 5 : 0);
            if (i > 0 && row[i] == row[i - 1] && some >= 3 && random.nextInt(3) > 0) {
                some = Math.min(some, 6);
                told.add(16 + 100 * (some - 3));
            } else if (row[i] == 0 && some >= 11) {
                some = Math.min(some, 138);
                told.add(18 + 100 * (some - 11));
            } else if (row[i] == 0 && some >= 3) {
                told.add(17 + 100 * (some - 3));
            } else {
                told.add(row[i]);
                some = 1;
            }
            i += some;
        }
        return told;
    }

    private static void symbols(Random random, Bits bits, int[] letterLengths, int[] distanceLengths, int[] bytes) {
        String[] letters;
        String[] distances;
        try {
            letters = Bits.wordsOf(letterLengths);
            distances = Bits.wordsOf(distanceLengths);
        } catch (RuntimeException notACode) {
            return;
        }
        for (int left = random.nextInt(40); left > 0; left--) {
            int letter = random.nextInt(letters.length);
            if (letters[letter] == null || letter == 256) {
                continue;
            }
            if (letter < 256) {
                bits.word(letters[letter]);
                bytes[0]++;
            } else if (letter < 286 || random.nextInt(20) == 0) {
                stretch(random, bits, letter, letters, distances, bytes);
            }
        }
        bits.word(letters[256] == null ? "" : letters[256]);
    }

    private static void stretch(Random random, Bits bits, int letter, String[] letters, String[] distances,
            int[] bytes) {
        int j = random.nextInt(distances.length);
        boolean careless = random.nextInt(40) == 0;
        boolean fits = j < 30 && distances[j] != null && PlainPacker.distanceFrom(j) <= bytes[0];
        if (!careless && !fits) {
            return;
        }
        int i = letter - 257;
        int longer = i > 28 || PlainPacker.lengthBits(i) == 0 ? 0 : random.nextInt(1 << PlainPacker.lengthBits(i));
        bits.word(letters[letter]);
        if (i <= 28) {
            bits.number(longer, PlainPacker.lengthBits(i));
            bytes[0] += PlainPacker.lengthFrom(i) + longer;
        }
        bits.word(distances[j] == null ? "1" : distances[j]);
        if (j < 30) {
            bits.number(careless ? 3 : 0, PlainPacker.distanceBits(j));
        }
    }
}
