import java.io.ByteArrayOutputStream;
import java.util.Arrays;
import java.util.List;
import java.util.Random;
import java.util.zip.CRC32;
import java.util.zip.Deflater;

/** Promises 7 and 14 to 16: what good packed rows, bare and wrapped, unpack to. */
public final class UnpackTest {
    public static void main(String[] args) {
        wrongWrapper();
        rowsOfTheLibrary();
        plainBlocks();
        everyLengthAndDistance();
        codesWithFewDistances();
        moreBlocksThanAreTold();
        manyLettersAndBlocks();
        fullOut();
        heads();
        members();
        bitsThatCountForNothing();
        TestKit.finish();
    }

    private static RowPacker loaded(byte[] tape) {
        RowPacker x = new RowPacker();
        TestKit.load(x, tape);
        return x;
    }

    private static RowPacker dueUnpacked(String what, byte[] tape, int wrapper, byte[] want) {
        RowPacker x = loaded(tape);
        TestKit.due(what + ": unpack", x.unpack(wrapper), want.length);
        TestKit.due(what + ": fault", x.fault(), 0);
        TestKit.due(what + ": place", x.place(), RowPacker.NONE);
        TestKit.dueRow(what, TestKit.outOf(x), want);
        return x;
    }

    private static void dueBlock(String what, RowPacker x, int i, int... want) {
        for (int k = 0; k < 4; k++) {
            TestKit.due(what + ": block(" + i + ", " + k + ")", x.block(i, k), want[k]);
        }
    }

    private static void wrongWrapper() {
        RowPacker x = loaded(TestKit.row(3, 0));
        x.unpack(RowPacker.BARE);
        for (int wrapper : new int[] {-1, 3, Integer.MIN_VALUE, Integer.MAX_VALUE}) {
            TestKit.dueThrowWithoutChange(x, "unpack(" + wrapper + ")", IllegalArgumentException.class,
                () -> x.unpack(wrapper));
        }
    }

    private static void rowsOfTheLibrary() {
        int[] strategies = {Deflater.DEFAULT_STRATEGY, Deflater.FILTERED, Deflater.HUFFMAN_ONLY};
        for (int seed = 0; seed < 120; seed++) {
            Random random = new Random(seed);
            byte[] bytes = new byte[random.nextInt(seed % 4 == 0 ? 60000 : 4000)];
            int bound = 1 + random.nextInt(seed % 3 == 0 ? 60 : 8);
            for (int i = 0; i < bytes.length; i++) {
                bytes[i] = (byte) (random.nextInt(9) == 0 ? random.nextInt(bound) : i < 7 ? i : bytes[i - 7]);
            }
            int wrapper = seed % 2;
            Deflater deflater = new Deflater(seed % 10, wrapper == 0);
            deflater.setStrategy(strategies[seed % 3]);
            deflater.setInput(bytes);
            deflater.finish();
            byte[] packed = new byte[70000];
            int many = 0;
            while (!deflater.finished()) {
                many += deflater.deflate(packed, many, packed.length - many);
            }
            deflater.end();
            if (many <= 32768) {
                dueUnpacked("library's row " + seed, Arrays.copyOf(packed, many), wrapper, bytes);
            }
        }
    }

    private static void plainBlocks() {
        dueUnpacked("a PLAIN one without bytes", new Bits().plain(1).row(), 0, new byte[0]);
        RowPacker x = dueUnpacked("PLAIN ones", new Bits().plain(0, 1, 2).plain(0).plain(1, 255).row(), 0,
            TestKit.row(1, 2, 255));
        TestKit.due("PLAIN ones: blocks", x.blocks(), 3);
        dueBlock("PLAIN ones", x, 0, 0, 0, 56, 2);
        dueBlock("PLAIN ones", x, 1, 0, 56, 40, 0);
        dueBlock("PLAIN ones", x, 2, 0, 96, 48, 1);
        // A block of 10 bits before it: then 3 bits and 3 that count for nothing, here 1.
        Bits bits = new Bits().head(0, 1).letter(256).head(1, 0).number(7, 3);
        bits.number(1, 16).number(65534, 16).bytes(9);
        x = dueUnpacked("bits before a PLAIN one", bits.row(), 0, TestKit.row(9));
        dueBlock("bits before a PLAIN one", x, 0, 1, 0, 10, 0);
        dueBlock("bits before a PLAIN one", x, 1, 0, 10, 46, 1);
        // The three bits end a byte: none counts for nothing.
        bits = new Bits().head(0, 1).letter(144).letter(256);
        while (bits.length() % 8 != 5) {
            bits.head(0, 1).letter(144).letter(256);
        }
        int before = bits.length();
        x = dueUnpacked("no bits before a PLAIN one", bits.plain(1, 9).row(), 0, withNine(before / 19));
        dueBlock("no bits before a PLAIN one", x, before / 19, 0, before, 43, 1);
    }

    private static byte[] withNine(int before) {
        byte[] row = new byte[before + 1];
        Arrays.fill(row, (byte) 144);
        row[before] = 9;
        return row;
    }

    /** All lengths behind a distance of 1, the two forms of 258 too; and the ends of each distance's symbol. */
    private static void everyLengthAndDistance() {
        for (int i = 0; i < 29; i++) {
            int bits = PlainPacker.lengthBits(i);
            for (int number = 0; number < 1 << bits; number++) {
                Bits row = new Bits().head(1, 1).letter(200).letter(257 + i).number(number, bits).distance(0);
                byte[] want = new byte[1 + PlainPacker.lengthFrom(i) + number];
                Arrays.fill(want, (byte) 200);
                RowPacker x = dueUnpacked("length " + (want.length - 1), row.letter(256).row(), 0, want);
                TestKit.due("stretches", x.stretches(), 1);
            }
        }
        byte[] plain = new byte[32740];
        new Random(9).nextBytes(plain);
        int[] values = new int[plain.length];
        for (int i = 0; i < values.length; i++) {
            values[i] = plain[i] & 255;
        }
        for (int j = 0; j < 30; j++) {
            int bits = PlainPacker.distanceBits(j);
            for (int number : new int[] {0, (1 << bits) - 1}) {
                int distance = PlainPacker.distanceFrom(j) + number;
                if (distance <= plain.length) {
                    Bits row = new Bits().plain(0, values).head(1, 1).letter(257).distance(j).number(number, bits);
                    byte[] want = Arrays.copyOf(plain, plain.length + 3);
                    for (int i = plain.length; i < want.length; i++) {
                        want[i] = want[i - distance];
                    }
                    dueUnpacked("distance " + distance, row.letter(256).row(), 0, want);
                }
            }
        }
    }

    /** Lengths 1, 2, 2 for the code of lengths: symbols 1, 18 and 0. */
    private static int[] fewLengths() {
        int[] lengths = new int[19];
        lengths[1] = 1;
        lengths[18] = 2;
        lengths[0] = 2;
        return lengths;
    }

    /** Letters a and 256 of 1 bit, or a, 256 and 257: no distance, one of 1 bit, two of 1 bit. */
    private static void codesWithFewDistances() {
        int[] lengths = fewLengths();
        List<Integer> letters = List.of(18 + 100 * (97 - 11), 1, 18 + 100 * (138 - 11), 18 + 100 * (20 - 11), 1);
        Bits none = new Bits().head(1, 2).codes(257, 1, lengths).lengths(lengths, letters);
        none.lengths(lengths, List.of(0)).word("0").word("0").word("1");
        dueUnpacked("no distance has a code", none.row(), 0, TestKit.row(97, 97));
        Bits last = new Bits().head(1, 2).codes(257, 30, lengths).lengths(lengths, letters);
        last.lengths(lengths, List.of(18 + 100 * (29 - 11), 1)).word("0").word("1");
        dueUnpacked("the last distance alone has one", last.row(), 0, TestKit.row(97));

        int[] more = new int[19];
        more[1] = 2;
        more[2] = 2;
        more[18] = 2;
        more[0] = 2;
        List<Integer> three = List.of(18 + 100 * (97 - 11), 1, 18 + 100 * (138 - 11), 18 + 100 * (20 - 11), 2, 2);
        Bits one = new Bits().head(1, 2).codes(258, 1, more).lengths(more, three).lengths(more, List.of(1));
        one.word("0").word("11").word("0").word("10");
        RowPacker x = dueUnpacked("one distance has a code", one.row(), 0, TestKit.row(97, 97, 97, 97));
        TestKit.due("its stretches", x.stretches(), 1);
        Bits two = new Bits().head(1, 2).codes(258, 2, more).lengths(more, three).lengths(more, List.of(1, 1));
        two.word("0").word("0").word("11").word("1").word("10");
        dueUnpacked("two distances have a code", two.row(), 0, TestKit.row(97, 97, 97, 97, 97));
        repeatedOverTheBorder();
    }

    /** 65,536 letters of 1 bit in one block, and as many blocks as a TAPE holds. */
    private static void manyLettersAndBlocks() {
        int[] lengths = fewLengths();
        List<Integer> letters = List.of(18 + 100 * (97 - 11), 1, 18 + 100 * (138 - 11), 18 + 100 * (20 - 11), 1);
        Bits bits = new Bits().head(1, 2).codes(257, 1, lengths).lengths(lengths, letters);
        bits.lengths(lengths, List.of(0));
        for (int i = 0; i < 65536; i++) {
            bits.word("0");
        }
        RowPacker x = loaded(bits.word("1").row());
        TestKit.due("letters of 1 bit", x.unpack(0), 65536);
        TestKit.due("the last one", x.out(65535), 97);
        bits = new Bits();
        for (int i = 0; i < 26214; i++) {
            bits.head(i == 26213 ? 1 : 0, 1).letter(256);
        }
        x = loaded(bits.row());
        TestKit.due("26,214 blocks: unpack", x.unpack(0), 0);
        TestKit.due("26,214 blocks", x.blocks(), 26214);
    }

    /** One row of lengths: 16 repeats the last letter's length among the distances. */
    private static void repeatedOverTheBorder() {
        int[] lengths = new int[19];
        lengths[2] = 2;
        lengths[18] = 2;
        lengths[16] = 2;
        lengths[0] = 2;
        List<Integer> told = List.of(18 + 100 * (97 - 11), 2, 18 + 100 * (138 - 11), 18 + 100 * (18 - 11), 0, 0, 2, 2,
            2, 16 + 100);
        Bits bits = new Bits().head(1, 2).codes(259, 4, lengths).lengths(lengths, told);
        bits.word("00").word("10").word("00").word("01");
        dueUnpacked("16 over the border", bits.row(), 0, TestKit.row(97, 97, 97, 97));
    }

    private static void moreBlocksThanAreTold() {
        Bits bits = new Bits();
        for (int i = 0; i < 70; i++) {
            bits.head(i == 69 ? 1 : 0, 1).letter(i).letter(256);
        }
        RowPacker x = loaded(bits.row());
        TestKit.due("70 blocks: unpack", x.unpack(0), 70);
        TestKit.due("70 blocks: blocks", x.blocks(), 70);
        dueBlock("70 blocks", x, 0, 1, 0, 18, 1);
        dueBlock("70 blocks", x, 63, 1, 63 * 18, 18, 1);
        TestKit.dueThrowWithoutChange(x, "block(64, 0)", IndexOutOfBoundsException.class, () -> x.block(64, 0));
        TestKit.dueThrowWithoutChange(x, "block(64, 9)", IndexOutOfBoundsException.class, () -> x.block(64, 9));
        TestKit.dueThrowWithoutChange(x, "block(69, 0)", IndexOutOfBoundsException.class, () -> x.block(69, 0));
        TestKit.dueThrowWithoutChange(x, "block(63, 4)", IllegalArgumentException.class, () -> x.block(63, 4));
    }

    private static void fullOut() {
        Bits bits = new Bits().head(1, 1).letter(7);
        for (int i = 0; i < 254; i++) {
            bits.letter(285).distance(0);
        }
        bits.letter(257).distance(0);
        RowPacker x = loaded(bits.letter(256).row());
        TestKit.due("65,536 bytes", x.unpack(0), 65536);
        TestKit.due("the last one", x.out(65535), 7);
        TestKit.due("stretches", x.stretches(), 255);
        TestKit.dueThrow("one behind", IndexOutOfBoundsException.class, () -> x.out(65536));
    }

    private static byte[] sumOf(byte[] bytes, int many) {
        CRC32 sum = new CRC32();
        sum.update(bytes);
        return Arrays.copyOf(new Bits().number((int) sum.getValue(), 32).row(), many);
    }

    /** A member with these marks and bytes behind its first ten, which unpacks to a PLAIN block's bytes. */
    private static byte[] member(int marks, byte[] more, int... values) {
        byte[] head = TestKit.join(TestKit.row(31, 139, 8, marks, 1, 2, 3, 4, 5, 6), more);
        if ((marks & 2) != 0) {
            head = TestKit.join(head, sumOf(head, 2));
        }
        byte[] count = new Bits().number(values.length, 32).row();
        return TestKit.join(head, new Bits().plain(1, values).row(), sumOf(TestKit.row(values), 4), count);
    }

    private static void heads() {
        byte[] want = TestKit.row(5, 6, 7);
        for (int marks = 0; marks < 32; marks++) {
            ByteArrayOutputStream more = new ByteArrayOutputStream();
            if ((marks & 4) != 0) {
                more.writeBytes(TestKit.row(3, 0, 0, 0, 9));
            }
            if ((marks & 8) != 0) {
                more.writeBytes(TestKit.row(97, 98, 0));
            }
            if ((marks & 16) != 0) {
                more.writeBytes(TestKit.row(0));
            }
            byte[] tape = member(marks, more.toByteArray(), 5, 6, 7);
            RowPacker x = dueUnpacked("marks " + marks, tape, 2, want);
            int head = 10 + more.size() + (marks & 2);
            dueBlock("marks " + marks, x, 0, 0, 8 * head, 64, 3);
        }
        byte[] large = new byte[302];
        large[0] = 44;
        large[1] = 1;
        dueUnpacked("300 bytes in the head", member(4, large, 5, 6, 7), 2, want);
        dueUnpacked("no bytes in the head", member(4, new byte[2], 5, 6, 7), 2, want);
        for (int first = 8; first < 128; first += 16) {
            for (int second = 0; second < 256; second++) {
                if ((second & 32) == 0 && (256 * first + second) % 31 == 0) {
                    dueUnpacked("SHORT head " + first + ", " + second,
                        TestKit.row(first, second, 3, 0, 0, 0, 0, 1), 1, new byte[0]);
                }
            }
        }
    }

    private static void members() {
        byte[] one = member(0, new byte[0], 1, 2, 3);
        byte[] two = member(2, new byte[0], 4);
        byte[] none = member(0, new byte[0]);
        RowPacker x = dueUnpacked("three members", TestKit.join(one, none, two), 2, TestKit.row(1, 2, 3, 4));
        TestKit.due("blocks of three members", x.blocks(), 3);
        dueBlock("three members", x, 0, 0, 80, 64, 3);
        dueBlock("three members", x, 1, 0, 8 * (one.length + 10), 40, 0);
        dueBlock("three members", x, 2, 0, 8 * (one.length + none.length + 12), 48, 1);
        byte[][] many = new byte[90][];
        Arrays.fill(many, two);
        x = loaded(TestKit.join(many));
        TestKit.due("90 members", x.unpack(2), 90);
        TestKit.due("blocks of 90 members", x.blocks(), 90);
    }

    private static void bitsThatCountForNothing() {
        byte[] tape = new Bits().head(1, 1).letter(256).number(63, 6).row();
        dueUnpacked("bits behind the last block", tape, 0, new byte[0]);
        dueUnpacked("bits behind it, SHORT", TestKit.join(TestKit.row(120, 1), tape, TestKit.row(0, 0, 0, 1)), 1,
            new byte[0]);
        byte[] head = TestKit.row(31, 139, 8, 0, 0, 0, 0, 0, 0, 0);
        dueUnpacked("bits behind it, LONG", TestKit.join(head, tape, new byte[8]), 2, new byte[0]);
    }
}
