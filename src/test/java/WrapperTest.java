import java.util.Arrays;
import java.util.zip.CRC32;

/** Promises 7 to 9 and 15: wrappers that are unpacked, good ones and those with faults 11 to 14. */
public final class WrapperTest {
    /** An empty packed row: 10 bits, and 6 behind them. */
    private static final byte[] NOTHING = {3, 0};

    public static void main(String[] args) throws Exception {
        Edges.run(WrapperTest.class);
        TestKit.finish();
    }

    private static RowPacker dueUnpacked(String what, byte[] tape, int wrapper, int... want) {
        RowPacker x = TestKit.loaded(tape);
        TestKit.due(what + ": unpack", x.unpack(wrapper), want.length);
        TestKit.due(what + ": fault", x.fault(), 0);
        TestKit.due(what + ": place", x.place(), RowPacker.NONE);
        TestKit.dueRow(what, TestKit.outOf(x), TestKit.row(want));
        return x;
    }

    private static byte[] lowestFirst(long number, int many) {
        byte[] row = new byte[many];
        for (int i = 0; i < many; i++) {
            row[i] = (byte) (number >> 8 * i);
        }
        return row;
    }

    private static long sumB(byte[] bytes) {
        CRC32 sum = new CRC32();
        sum.update(bytes);
        return sum.getValue();
    }

    /** A member with these MARKS and bytes behind its first ten, that unpacks to a PLAIN block's bytes. */
    private static byte[] member(int marks, byte[] more, int... values) {
        byte[] head = TestKit.join(TestKit.row(31, 139, 8, marks, 1, 2, 3, 4, 5, 6), more);
        if ((marks & 2) != 0) {
            head = TestKit.join(head, lowestFirst(sumB(head), 2));
        }
        return memberOf(head, new Bits().plain(1, values), TestKit.row(values));
    }

    private static byte[] memberOf(byte[] head, Bits packed, byte[] bytes) {
        return TestKit.join(head, packed.row(), lowestFirst(sumB(bytes), 4), lowestFirst(bytes.length, 4));
    }

    private static final byte[] HEAD = TestKit.row(31, 139, 8, 0, 0, 0, 0, 0, 0, 255);

    @Says("0 BARE: a packed row, which ends in the last byte of the TAPE")
    static void bare() {
        dueUnpacked("in the first of two bits", NOTHING, RowPacker.BARE);
        TestKit.dueFault("a byte behind", TestKit.row(3, 0, 0), RowPacker.BARE, 11, 16, 1);
        byte[] whole = new Bits().head(1, 1).letter(5).letter(6).letter(144).letter(145).letter(256).toByte().row();
        dueUnpacked("at the last bit of a byte or before", whole, RowPacker.BARE, 5, 6, 144, 145);
        Bits toTheBit = new Bits().head(1, 1).letter(200).letter(201).letter(202).letter(203).letter(204).letter(205)
            .letter(256);
        TestKit.due("a row of whole bytes", toTheBit.length() % 8, 0);
        dueUnpacked("at the last bit", toTheBit.row(), RowPacker.BARE, 200, 201, 202, 203, 204, 205);
        TestKit.dueFault("a byte behind the last bit", TestKit.join(toTheBit.row(), new byte[1]), RowPacker.BARE, 11,
            toTheBit.length(), 1);
    }

    @Says("(here and in wrappers bits behind its last block up to the byte's end count for nothing)")
    static void bitsBehindTheLastBlock() {
        for (int bits = 0; bits < 64; bits++) {
            byte[] row = TestKit.row(3, bits << 2);
            dueUnpacked("BARE with " + bits, row, RowPacker.BARE);
            dueUnpacked("SHORT with " + bits, TestKit.join(TestKit.row(120, 1), row, TestKit.row(0, 0, 0, 1)),
                RowPacker.SHORT);
            dueUnpacked("LONG with " + bits, TestKit.join(HEAD, row, new byte[8]), RowPacker.LONG);
        }
    }

    /** All pairs of bytes: those that are as said unpack, the others are fault 12, at the first byte that is not. */
    @Says({"a byte whose lowest four bits are 8 and highest four at most 7",
        "a byte with bit 5 being 0, so that 256 times the first one and this are divided by 31"})
    static void headsOfShort() {
        RowPacker x = TestKit.loaded(TestKit.row(0, 0, 3, 0, 0, 0, 0, 1));
        for (int first = 0; first < 256; first++) {
            boolean firstIsGood = first % 16 == 8 && first / 16 <= 7;
            for (int second = 0; second < 256; second++) {
                boolean good = second / 32 % 2 == 0 && (256 * first + second) % 31 == 0;
                x.unpack(RowPacker.SHORT);
                TestKit.due(first + ", " + second + ": fault", x.fault(), firstIsGood && good ? 0 : 12);
                TestKit.due(first + ", " + second + ": place", x.place(), !firstIsGood ? 0 : good ? -1 : 8);
                x.change(1, second ^ (second + 1 & 255));
            }
            x.change(0, first ^ (first + 1 & 255));
        }
    }

    @Says("from the next byte on SUM A of what was unpacked, 4 bytes, the highest first.")
    static void sumOfShort() {
        // SUM A of 1, 2, 3: a is 7, b is 2 + 4 + 7.
        byte[] packed = TestKit.join(TestKit.row(120, 156), new Bits().plain(1, 1, 2, 3).row());
        RowPacker x = dueUnpacked("1, 2, 3", TestKit.join(packed, TestKit.row(0, 13, 0, 7)), RowPacker.SHORT, 1, 2, 3);
        UnpackTest.dueBlock("1, 2, 3", x, 0, 0, 16, 64, 3);
        for (int many = 0; many < 4; many++) {
            byte[] cut = TestKit.join(packed, Arrays.copyOf(TestKit.row(0, 13, 0, 7), many));
            TestKit.dueFault(many + " bytes of the sum", cut, RowPacker.SHORT, 1, 8 * cut.length, 1);
        }
        TestKit.dueFault("the lowest first", TestKit.join(packed, TestKit.row(7, 0, 13, 0)), RowPacker.SHORT, 13, 80, 1);
        TestKit.dueFault("of the packed row", TestKit.join(TestKit.row(120, 156), NOTHING, TestKit.row(0, 8, 0, 4)),
            RowPacker.SHORT, 13, 32, 1);
    }

    @Says("11 something stands behind the end: at its first byte.")
    static void somethingBehind() {
        TestKit.dueFault("a byte behind BARE", TestKit.row(3, 0, 0), RowPacker.BARE, 11, 16, 1);
        TestKit.dueFault("two bytes behind BARE", TestKit.row(3, 0, 7, 7), RowPacker.BARE, 11, 16, 1);
        TestKit.dueFault("a byte behind PLAIN", new Bits().plain(1, 1).bytes(3).row(), RowPacker.BARE, 11, 48, 1);
        byte[] all = TestKit.row(120, 156, 3, 0, 0, 0, 0, 1, 120, 156, 3, 0, 0, 0, 0, 1);
        TestKit.dueFault("a second one behind SHORT", all, RowPacker.SHORT, 11, 64, 1);
        TestKit.dueFault("a byte behind SHORT", Arrays.copyOf(all, 9), RowPacker.SHORT, 11, 64, 1);
        TestKit.dueFault("a byte behind LONG is 12", TestKit.join(HEAD, NOTHING, new byte[9]), RowPacker.LONG, 12, 160,
            1);
    }

    @Says("12 a wrapper's head is wrong: at the byte.")
    static void wrongHeads() {
        TestKit.dueFault("SHORT, first byte alone", TestKit.row(121), RowPacker.SHORT, 12, 0, 0);
        TestKit.dueFault("SHORT, second byte", TestKit.row(120, 157), RowPacker.SHORT, 12, 8, 0);
        byte[] good = TestKit.join(HEAD, NOTHING, new byte[8]);
        for (int i = 0; i < 3; i++) {
            for (int by = 1; by < 256; by++) {
                byte[] tape = good.clone();
                tape[i] ^= (byte) by;
                TestKit.dueFault("LONG, byte " + i, tape, RowPacker.LONG, 12, 8 * i, 0);
            }
            byte[] cut = Arrays.copyOf(good, i + 1);
            cut[i]++;
            TestKit.dueFault("LONG, byte " + i + " being the last", cut, RowPacker.LONG, 12, 8 * i, 0);
        }
    }

    @Says("13 a sum is another one (that in the head of a MEMBER, too): at its first byte.")
    static void wrongSums() {
        byte[] one = TestKit.row(120, 156, 3, 0, 0, 0, 0, 1);
        byte[] two = TestKit.join(HEAD, NOTHING, new byte[8]);
        byte[] three = member(2, new byte[0], 5);
        for (int bit = 0; bit < 32; bit++) {
            TestKit.dueFault("SUM A, bit " + bit, otherBit(one, 32 + bit), RowPacker.SHORT, 13, 32, 1);
            TestKit.dueFault("SUM B, bit " + bit, otherBit(two, 96 + bit), RowPacker.LONG, 13, 96, 1);
        }
        for (int bit = 0; bit < 16; bit++) {
            TestKit.dueFault("of the head, bit " + bit, otherBit(three, 80 + bit), RowPacker.LONG, 13, 80, 0);
        }
    }

    @Says("14 a count is another one: at its first byte.")
    static void wrongCounts() {
        byte[] tape = TestKit.join(HEAD, NOTHING, new byte[8]);
        for (int bit = 0; bit < 32; bit++) {
            byte[] wrong = otherBit(tape, 128 + bit);
            TestKit.dueFault("bit " + bit, wrong, RowPacker.LONG, 14, 128, 1);
            TestKit.dueFault("bit " + bit + ", and the sum", otherBit(wrong, 96), RowPacker.LONG, 13, 96, 1);
        }
    }

    private static byte[] otherBit(byte[] row, int bit) {
        byte[] other = row.clone();
        other[bit / 8] ^= (byte) (1 << bit % 8);
        return other;
    }

    /** What stands behind a member is looked at byte by byte: 12 at the first one that is none of a head's. */
    @Says("one behind the other (what stands behind one must be another one: 12 where it is none)")
    static void behindAMember() {
        byte[] one = member(0, new byte[0], 1, 2, 3);
        int bits = 8 * one.length;
        for (int value = 0; value < 256; value++) {
            byte[] tape = TestKit.join(one, TestKit.row(value));
            TestKit.dueFault(value + " behind", tape, RowPacker.LONG, value == 31 ? 1 : 12, value == 31 ? bits + 8 : bits,
                1);
        }
        TestKit.dueFault("31, 138", TestKit.join(one, TestKit.row(31, 138)), RowPacker.LONG, 12, bits + 8, 1);
        TestKit.dueFault("31, 139, 9", TestKit.join(one, TestKit.row(31, 139, 9)), RowPacker.LONG, 12, bits + 16, 1);
        TestKit.dueFault("MARKS 32", TestKit.join(one, TestKit.row(31, 139, 8, 32)), RowPacker.LONG, 12, bits + 24, 1);
        for (int many = 1; many < one.length; many++) {
            byte[] tape = TestKit.join(one, Arrays.copyOf(one, many));
            TestKit.dueFault("a member cut to " + many, tape, RowPacker.LONG, 1, 8 * tape.length,
                many < one.length - 8 ? 1 : 2);
        }
    }

    @Says({"2 LONG: one MEMBER or more", "or on the TAPE, from the first byte on, with the head of a wrapper)"})
    static void members() {
        byte[] one = member(0, new byte[0], 1, 2, 3);
        byte[] two = member(2, new byte[0], 4);
        byte[] none = member(0, new byte[0]);
        dueUnpacked("one that is empty", none, RowPacker.LONG);
        RowPacker x = dueUnpacked("three", TestKit.join(one, none, two), RowPacker.LONG, 1, 2, 3, 4);
        TestKit.due("blocks of three", x.blocks(), 3);
        UnpackTest.dueBlock("three", x, 0, 0, 80, 64, 3);
        UnpackTest.dueBlock("three", x, 1, 0, 8 * (one.length + 10), 40, 0);
        UnpackTest.dueBlock("three", x, 2, 0, 8 * (one.length + none.length + 12), 48, 1);
        byte[] small = TestKit.join(HEAD, NOTHING, new byte[8]);
        byte[][] many = new byte[1638][];
        Arrays.fill(many, small);
        x = dueUnpacked("as many as a TAPE holds", TestKit.join(many), RowPacker.LONG);
        TestKit.due("blocks of 1,638", x.blocks(), 1638);
        UnpackTest.dueBlock("of 1,638", x, 63, 1, 63 * 160 + 80, 10, 0);
        TestKit.dueFault("none", new byte[0], RowPacker.LONG, 1, 0, 0);
    }

    /** Each value, with all that it asks for; 6 bytes of any kind behind it. */
    @Says({"a byte of MARKS, whose bits 5 to 7 are 0", "6 bytes of any kind"})
    static void marks() {
        for (int marks = 0; marks < 256; marks++) {
            byte[] more = new byte[0];
            if ((marks & 4) != 0) {
                more = TestKit.join(more, TestKit.row(3, 0, 0, 0, 9));
            }
            if ((marks & 8) != 0) {
                more = TestKit.join(more, TestKit.row(97, 98, 0));
            }
            if ((marks & 16) != 0) {
                more = TestKit.join(more, TestKit.row(99, 0));
            }
            byte[] tape = member(marks, more, 5, 6, 7);
            if (marks < 32) {
                RowPacker x = dueUnpacked("MARKS " + marks, tape, RowPacker.LONG, 5, 6, 7);
                UnpackTest.dueBlock("MARKS " + marks, x, 0, 0, 8 * (10 + more.length + (marks & 2)), 64, 3);
            } else {
                TestKit.dueFault("MARKS " + marks, tape, RowPacker.LONG, 12, 24, 0);
                TestKit.dueFault("MARKS " + marks, Arrays.copyOf(tape, 4), RowPacker.LONG, 12, 24, 0);
            }
        }
        for (int value = 0; value < 256; value++) {
            byte[] six = TestKit.join(TestKit.row(31, 139, 8, 0), TestKit.filled(6, value));
            dueUnpacked("6 bytes " + value, memberOf(six, new Bits().plain(1), new byte[0]), RowPacker.LONG);
        }
    }

    @Says("with bit 2 of MARKS a number n of 2 bytes, the lowest first, and n bytes")
    static void bytesInTheHead() {
        for (int n : new int[] {0, 1, 255, 256, 257, 32734}) {
            byte[] more = TestKit.join(lowestFirst(n, 2), TestKit.filled(n, 31));
            byte[] tape = member(4, more, 5);
            dueUnpacked(n + " bytes", tape, RowPacker.LONG, 5);
            TestKit.dueFault(n + " bytes, the end behind", Arrays.copyOf(tape, 12 + n), RowPacker.LONG, 1,
                8 * (12 + n), 0);
            if (n > 0) {
                TestKit.dueFault(n + " bytes, one missing", Arrays.copyOf(tape, 11 + n), RowPacker.LONG, 1,
                    8 * (11 + n), 0);
            }
        }
        byte[] most = TestKit.join(TestKit.row(31, 139, 8, 4, 0, 0, 0, 0, 0, 0, 255, 255), new byte[100]);
        TestKit.dueFault("65,535 bytes", most, RowPacker.LONG, 1, 896, 0);
        TestKit.dueFault("half of the number", Arrays.copyOf(most, 11), RowPacker.LONG, 1, 88, 0);
    }

    @Says("with bit 3 bytes up to one that is 0; with bit 4 again")
    static void textsInTheHead() {
        for (int marks : new int[] {8, 16}) {
            dueUnpacked("0 alone", member(marks, new byte[1], 5), RowPacker.LONG, 5);
            dueUnpacked("a text", member(marks, TestKit.row(255, 31, 1, 0), 5), RowPacker.LONG, 5);
            byte[] open = TestKit.join(TestKit.row(31, 139, 8, marks), TestKit.filled(20, 1));
            TestKit.dueFault("no 0", open, RowPacker.LONG, 1, 192, 0);
        }
        dueUnpacked("two texts", member(24, TestKit.row(97, 0, 98, 0), 5), RowPacker.LONG, 5);
        dueUnpacked("two that are empty", member(24, TestKit.row(0, 0), 5), RowPacker.LONG, 5);
        byte[] half = TestKit.join(TestKit.row(31, 139, 8, 24, 0, 0, 0, 0, 0, 0, 97, 0), TestKit.filled(9, 7));
        TestKit.dueFault("no second 0", half, RowPacker.LONG, 1, 8 * 21, 0);
        TestKit.dueFault("nothing behind the first 0", Arrays.copyOf(half, 12), RowPacker.LONG, 1, 96, 0);
        byte[] large = TestKit.filled(32740, 9);
        large[32739] = 0;
        dueUnpacked("a long text", member(8, large, 5), RowPacker.LONG, 5);
    }

    /** Of this member alone, with its bytes and texts; the sum is looked at before the row is read. */
    @Says("with bit 1 the lowest 16 bits of SUM B of all bytes of the member so far, 2 bytes, the lowest first")
    static void sumOfTheHead() {
        byte[] plain = member(2, new byte[0], 5);
        byte[] full = member(30, TestKit.row(1, 0, 9, 97, 0, 98, 0), 6);
        dueUnpacked("a sum", plain, RowPacker.LONG, 5);
        dueUnpacked("behind all", full, RowPacker.LONG, 6);
        dueUnpacked("of the second member", TestKit.join(plain, full), RowPacker.LONG, 5, 6);
        byte[] head = TestKit.row(31, 139, 8, 2, 0, 0, 0, 0, 0, 0);
        int due = (int) sumB(head) & 65535;
        byte[] turned = TestKit.join(head, TestKit.row(due >> 8, due));
        TestKit.dueFault("the highest first", turned, RowPacker.LONG, 13, 80, 0);
        TestKit.dueFault("half of it", TestKit.join(head, TestKit.row(due + 1)), RowPacker.LONG, 1, 88, 0);
        TestKit.dueFault("the sum alone", TestKit.join(head, lowestFirst(due, 2)), RowPacker.LONG, 1, 96, 0);
        byte[] wrong = full.clone();
        wrong[18]++;
        TestKit.dueFault("of the second member, another", TestKit.join(plain, wrong), RowPacker.LONG, 13,
            8 * plain.length + 136, 1);
    }

    @Says("from the next byte on SUM B of what this member unpacked, and how many bytes that are, 4 bytes each, the "
        + "lowest first.")
    static void tailsOfMembers() {
        byte[] one = member(0, new byte[0], 1, 2, 3);
        int bits = 8 * one.length;
        byte[] both = TestKit.row(1, 2, 3, 1, 2, 3);
        byte[] ofBoth = memberOf(HEAD, new Bits().plain(1, 1, 2, 3), both);
        TestKit.dueFault("the sum of both", TestKit.join(one, ofBoth), RowPacker.LONG, 13, bits + 80 + 64, 2);
        byte[] count = one.clone();
        count[one.length - 4] = 6;
        TestKit.dueFault("the count of both", TestKit.join(one, count), RowPacker.LONG, 14, bits + 80 + 96, 2);
        for (int many = 0; many < 8; many++) {
            byte[] cut = Arrays.copyOf(one, one.length - 8 + many);
            TestKit.dueFault("a tail of " + many, cut, RowPacker.LONG, 1, 8 * cut.length, 1);
        }
        // The sum is looked at before the count is read.
        byte[] wrong = otherBit(Arrays.copyOf(one, one.length - 4), 8 * (one.length - 8));
        TestKit.dueFault("a wrong sum alone", wrong, RowPacker.LONG, 13, 8 * (one.length - 8), 1);
        byte[] large = TestKit.filled(65536, 7);
        byte[] full = memberOf(HEAD, new Bits().head(1, 1).run(7, 65536).letter(256), large);
        RowPacker x = TestKit.loaded(full);
        TestKit.due("a count of 65,536", x.unpack(RowPacker.LONG), 65536);
        TestKit.dueFault("0 of 65,536", otherBit(full, 8 * full.length - 16), RowPacker.LONG, 14, 8 * full.length - 32,
            1);
    }

    @Says("Distances do not go beyond the member's begin.")
    static void distancesOfMembers() {
        byte[] one = member(0, new byte[0], 1, 2, 3);
        Bits near = new Bits().head(1, 1).letter(9).letter(257).distance(0).letter(256);
        byte[] good = memberOf(HEAD, near, TestKit.row(9, 9, 9, 9));
        dueUnpacked("up to the begin", TestKit.join(one, good), RowPacker.LONG, 1, 2, 3, 9, 9, 9, 9);
        Bits far = new Bits().head(1, 1).letter(9).letter(257).distance(1).letter(256);
        byte[] bad = memberOf(HEAD, far, TestKit.row(9, 3, 9, 3));
        TestKit.dueFault("one beyond", TestKit.join(one, bad), RowPacker.LONG, 9, 8 * one.length + 80 + 18, 1);
        Bits none = new Bits().head(1, 1).letter(257).distance(2).letter(256);
        byte[] empty = memberOf(HEAD, none, TestKit.row(1, 2, 3));
        TestKit.dueFault("at the begin", TestKit.join(one, empty), RowPacker.LONG, 9, 8 * one.length + 80 + 10, 1);
        // Blocks of one member are no border.
        Bits blocks = new Bits().plain(0, 1, 2, 3).head(1, 1).letter(257).distance(2).letter(256);
        dueUnpacked("over blocks", memberOf(HEAD, blocks, TestKit.row(1, 2, 3, 1, 2, 3)), RowPacker.LONG,
            1, 2, 3, 1, 2, 3);
    }
}
