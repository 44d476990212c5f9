import java.util.Arrays;

/** Promises 6 and 14 to 16: the edges of PACKING's pieces, blocks, KINDs and wrappers. */
public final class PiecesTest {
    public static void main(String[] args) throws Exception {
        Edges.run(PiecesTest.class);
        TestKit.finish();
    }

    private static RowPacker packed(byte[] tape, int wrapper) {
        RowPacker x = TestKit.loaded(tape);
        TestKit.due("pack is size", x.pack(wrapper), x.size());
        return x;
    }

    private static PlainUnpacker readAgain(byte[] tape) {
        PlainUnpacker read = new PlainUnpacker(TestKit.outOf(packed(tape, RowPacker.BARE)), RowPacker.BARE);
        TestKit.dueRow("read again", read.unpacked, tape);
        return read;
    }

    /** The pieces of one block, as words: bytes as the letters that they are, a stretch as length@distance. */
    private static void duePieces(String tape, String want) {
        StringBuilder numbers = new StringBuilder();
        for (String word : want.split(" ")) {
            if (word.indexOf('@') > 0) {
                numbers.append(word).append(' ');
            } else {
                word.chars().forEach(letter -> numbers.append(letter).append(' '));
            }
        }
        duePieces(tape.getBytes(), numbers.toString().trim());
    }

    private static void duePieces(byte[] tape, String want) {
        String got = readAgain(tape).pieces.get(0);
        if (!got.equals(want)) {
            TestKit.tellWrong("the pieces are " + got + ", due are " + want);
        }
    }

    private static int manyPieces(String pieces) {
        return pieces.isEmpty() ? 0 : pieces.split(" ").length;
    }

    /** So many bytes below a prime, no three of which come twice in a row: a step of each size in turns. */
    static byte[] withoutStretches(int many, int prime, int first) {
        byte[] row = new byte[many];
        for (int i = 0; i < many; i++) {
            int step = 1 + i / prime;
            row[i] = (byte) (first + (long) (i % prime + step) * step % prime);
        }
        return row;
    }

    @Says("the stretch is the longest one of 3 .. 258 bytes")
    static void threeTo258() {
        duePieces("abxaby", "abxaby");
        duePieces("abcxabcy", "abcx 3@4 y");
        duePieces(new byte[3], "0 0 0");
        duePieces(new byte[4], "0 3@1");
        duePieces(new byte[258], "0 257@1");
        duePieces(new byte[259], "0 258@1");
        duePieces(new byte[260], "0 258@1 0");
        duePieces(new byte[261], "0 258@1 0 0");
        duePieces(new byte[262], "0 258@1 3@1");
        duePieces(new byte[517], "0 258@1 258@1");
        duePieces("abcdXabcYabcd!", "abcdX 3@5 Y 4@9 !");
    }

    @Says("that also begins at a place before p")
    static void firstPlaceOfAll() {
        duePieces("abcabc", "abc 3@3");
        duePieces("abc", "abc");
        duePieces("a", "a");
    }

    @Says("(it may go on over p)")
    static void overThePlace() {
        duePieces("abcabcabca", "abc 7@3");
        duePieces("xababababy", "xab 6@2 y");
        duePieces("zzzzz", "z 4@1");
    }

    /** Two places of the same three bytes so far from one another, zeros between them. */
    private static byte[] apart(int distance) {
        byte[] tape = new byte[distance + 3];
        for (int i = 0; i < 3; i++) {
            tape[i] = (byte) (97 + i);
            tape[distance + i] = (byte) (97 + i);
        }
        return tape;
    }

    @Says("at most 4,096 before")
    static void at4096() {
        String zeros = " 0" + " 258@1".repeat(15);
        duePieces(apart(4095), "97 98 99" + zeros + " 221@1 3@4095");
        duePieces(apart(4096), "97 98 99" + zeros + " 222@1 3@4096");
        duePieces(apart(4097), "97 98 99" + zeros + " 223@1 97 98 99");
        duePieces(apart(4098), "97 98 99" + zeros + " 224@1 97 98 99");
    }

    /** xbcde .. abc1234567abcde: the stretch of p + 1 is longer than that of p, if it is not too far. */
    private static byte[] laterApart(int distance) {
        byte[] tape = new byte[distance + 5];
        System.arraycopy("xbcde".getBytes(), 0, tape, 0, 5);
        System.arraycopy("abc1234567abcde".getBytes(), 0, tape, distance - 10, 15);
        return tape;
    }

    @Says("at most 4,096 before (it may go on over p)")
    static void at4096OfTheNextPlace() {
        String zeros = "120 98 99 100 101 0" + " 258@1".repeat(15);
        String near = " 97 98 99 49 50 51 52 53 54 55";
        duePieces(laterApart(4096), zeros + " 210@1" + near + " 97 4@4096");
        duePieces(laterApart(4097), zeros + " 211@1" + near + " 3@10 100 101");
    }

    @Says("and, of these, at the nearest place")
    static void nearest() {
        duePieces("abcXabcYabcZ", "abcX 3@4 Y 3@4 Z");
        duePieces("abcdXabcdYabc", "abcdX 4@5 Y 3@5");
        duePieces("zzzXzzz", "zzzX 3@4");
        duePieces("zzzzzzXzzz", "z 5@1 X 3@4");
    }

    @Says("the stretch of p is a piece, if there is one, and that of p + 1 is not longer (or there is none)")
    static void notLonger() {
        duePieces("abc-bcd-abcd", "abc-bcd- 3@8 d");
        duePieces("abc-bcde-abcde", "abc-bcde-a 4@6");
        duePieces("abc-bcde-cdefg-defghi-abcdefghi", "abc-bcde- 3@4 fg- 4@5 hi-abc 6@10");
        duePieces("abcd-bcdeXYZ-abcde", "abcd- 3@4 eXYZ- 4@13 e");
        // Behind the last stretch stands nothing: p + 1 has none.
        duePieces("abc-abc", "abc- 3@4");
    }

    /** 257 bytes at p and 258 at p + 1, then 258 at both. */
    @Says("of 3 .. 258 bytes that also begins at a place before p")
    static void notLongerAtTheEdge() {
        byte[] some = withoutStretches(258, 61, 40);
        byte[] most = Arrays.copyOf(some, 256);
        byte[] one = TestKit.row(1);
        byte[] tape = TestKit.join(one, most, TestKit.row(2), some, TestKit.row(3), one, some);
        String pieces = readAgain(tape).pieces.get(0);
        TestKit.due("257 and then 258", pieces.endsWith(" 256@257 " + (some[256] & 255) + " " + (some[257] & 255)
            + " 3 1 258@260") ? 1 : 0, 1);
        tape = TestKit.join(one, some, TestKit.row(2), one, some);
        pieces = readAgain(tape).pieces.get(0);
        TestKit.due("258 and then 258", pieces.endsWith(" 2 258@260 " + (some[257] & 255)) ? 1 : 0, 1);
    }

    @Says("it goes on behind it; else the byte is a piece")
    static void goesOnBehindIt() {
        // Behind abcde the stretch of e, efgh, is not looked for, but that of f.
        duePieces("abcdeXefghYabcdefgh", "abcdeXefghY 5@11 3@9");
        duePieces("abcabdabcabd", "abcabd 6@6");
    }

    @Says("BLOCKS have 1,024 pieces each, the last one what is left")
    static void piecesOfABlock() {
        for (int many : new int[] {1, 1023, 1024, 1025, 2047, 2048, 2049}) {
            PlainUnpacker read = readAgain(withoutStretches(many, 61, 40));
            TestKit.due("blocks of " + many, read.blocks.size(), (many + 1023) / 1024);
            for (int i = 0; i < read.blocks.size(); i++) {
                int due = Math.min(1024, many - 1024 * i);
                TestKit.due(many + " pieces: block " + i, manyPieces(read.pieces.get(i)), due);
                TestKit.due(many + " pieces: bytes of block " + i, read.blocks.get(i)[3], due);
            }
            RowPacker x = packed(withoutStretches(many, 61, 40), RowPacker.BARE);
            TestKit.due("blocks of " + many, x.blocks(), (many + 1023) / 1024);
            TestKit.due("no stretches", x.stretches(), 0);
        }
    }

    /** A stretch is one piece, however long: the 1,024th one may be it, or the first one of the next block. */
    @Says("1,024 pieces each")
    static void aStretchIsOnePiece() {
        for (int many = 1021; many <= 1024; many++) {
            byte[] tape = TestKit.join(withoutStretches(many, 61, 40), new byte[260], TestKit.row(1));
            PlainUnpacker read = readAgain(tape);
            // Behind the bytes stand four pieces: 0, 258@1, 0 and 1.
            TestKit.due("first block of " + many, manyPieces(read.pieces.get(0)), 1024);
            TestKit.due("second block of " + many, manyPieces(read.pieces.get(1)), many + 4 - 1024);
            int first = many < 1023 ? many + 1 + 258 + (many == 1021 ? 1 : 0) : 1024;
            TestKit.due("bytes of the first block of " + many, read.blocks.get(0)[3], first);
            TestKit.due("bytes of the second block of " + many, read.blocks.get(1)[3], tape.length - first);
        }
    }

    @Says({"(an empty TAPE makes one block without any)", "KIND 2 only if it has a piece"})
    static void emptyTape() {
        RowPacker x = packed(new byte[0], RowPacker.BARE);
        TestKit.dueRow("nothing packed", TestKit.outOf(x), TestKit.row(3, 0));
        TestKit.due("blocks", x.blocks(), 1);
        for (int what = 0; what < 4; what++) {
            TestKit.due("block(0, " + what + ")", x.block(0, what), new int[] {1, 0, 10, 0}[what]);
        }
        TestKit.due("stretches", x.stretches(), 0);
    }

    private static void dueKind(int want, int[] bits, int... values) {
        byte[] tape = TestKit.row(values);
        PlainPacker due = new PlainPacker(tape);
        due.pack(RowPacker.BARE);
        for (int kind = 0; kind < 3; kind++) {
            TestKit.due("bits of KIND " + kind, due.bitsOfKinds.get(0)[kind], bits[kind]);
        }
        RowPacker x = packed(tape, RowPacker.BARE);
        TestKit.due("KIND of " + Arrays.toString(bits), x.block(0, 0), want);
        TestKit.due("bits of it", x.block(0, 2), bits[want]);
        TestKit.dueRow("OUT", TestKit.outOf(x), due.pack(RowPacker.BARE));
    }

    /** Each KIND takes one bit fewer than each other one. */
    @Says("Each is of the KIND that takes the fewest bits from its first one to its last")
    static void oneBitFewer() {
        dueKind(0, new int[] {288, 289, 293}, 182, 180, 203, 177, 195, 187, 175, 186, 200, 193, 174, 176, 190, 178,
            184, 183, 195, 183, 182, 182, 195, 176, 174, 176, 197, 202, 174, 206, 175, 184, 189);
        dueKind(0, new int[] {288, 289, 289}, 218, 205, 213, 195, 193, 196, 206, 219, 190, 191, 205, 193, 190, 192,
            214, 212, 210, 209, 199, 218, 201, 218, 205, 190, 201, 217, 199, 190, 194, 208, 190);
        dueKind(1, new int[] {272, 271, 300}, 227, 197, 203, 227, 205, 218, 205, 203, 219, 194, 223, 229, 226, 202,
            203, 213, 211, 222, 208, 232, 225, 205, 208, 227, 214, 224, 216, 194, 222);
        dueKind(1, new int[] {200, 170, 171}, 11, 3, 9, 3, 3, 3, 5, 3, 3, 7, 3, 6, 3, 11, 10, 10, 3, 3, 9, 9);
        dueKind(2, new int[] {288, 289, 287}, 193, 174, 196, 177, 195, 171, 192, 183, 193, 171, 195, 191, 201, 185,
            171, 180, 173, 177, 184, 177, 171, 187, 188, 198, 184, 187, 179, 178, 196, 171, 183);
        dueKind(2, new int[] {200, 170, 169}, 6, 3, 9, 3, 5, 2, 2, 2, 6, 4, 6, 7, 2, 9, 4, 9, 3, 7, 2, 2);
    }

    @Says("of the same the least")
    static void sameBits() {
        dueKind(0, new int[] {280, 280, 280}, 227, 234, 219, 217, 224, 238, 235, 216, 218, 237, 231, 216, 230, 243,
            233, 229, 224, 219, 230, 217, 221, 234, 227, 228, 218, 216, 229, 216, 232, 241);
        dueKind(0, new int[] {288, 289, 288}, 197, 170, 184, 171, 199, 185, 196, 166, 167, 165, 166, 181, 165, 180,
            196, 182, 198, 165, 165, 166, 168, 179, 169, 173, 169, 178, 165, 199, 170, 176, 168);
        dueKind(1, new int[] {256, 253, 253}, 241, 221, 230, 228, 221, 226, 224, 225, 232, 221, 236, 221, 227, 222,
            221, 221, 248, 224, 221, 227, 234, 241, 230, 222, 233, 237, 237);
        int[] nine = new int[30];
        for (int i = 0; i < 30; i++) {
            nine[i] = 144 + 3 * i;
        }
        PlainPacker due = new PlainPacker(TestKit.row(nine));
        due.pack(RowPacker.BARE);
        dueKind(0, new int[] {280, 280, due.bitsOfKinds.get(0)[2]}, nine);
    }

    /**
     * n bytes of 9 bits take 10 + 9 n bits in KIND 1, in KIND 0 35 + 8 n and those that count for nothing, which
     * depend on where the block begins: here it begins at each bit of a byte.
     */
    @Says("(bits that count for nothing, which are 0, with them)")
    static void bitsBeforeAPlainBlock() {
        boolean[] seen = new boolean[8];
        byte[] before = withoutStretches(1024, 61, 40);
        for (int others = 0; others < 40; others++) {
            // One letter more that comes but once: the block before ends at another bit.
            before[others] = (byte) others;
            int begin = packed(TestKit.join(before, TestKit.row(144)), RowPacker.BARE).block(1, 1);
            seen[begin % 8] = true;
            int nothing = -(begin + 3) & 7;
            for (int n = 24 + nothing; n <= 25 + nothing; n++) {
                plainBehind(before, begin, nothing, n);
            }
        }
        for (int bit = 0; bit < 8; bit++) {
            TestKit.due("a block that begins at bit " + bit + " was seen", seen[bit] ? 1 : 0, 1);
        }
    }

    private static void plainBehind(byte[] before, int begin, int nothing, int n) {
        byte[] more = new byte[n];
        for (int i = 0; i < n; i++) {
            more[i] = (byte) (144 + 3 * i);
        }
        RowPacker x = packed(TestKit.join(before, more), RowPacker.BARE);
        int kind = n < 25 + nothing ? 1 : 0;
        TestKit.due("begin of the block", x.block(1, 1), begin);
        TestKit.due("KIND of " + n + " bytes behind " + begin + " bits", x.block(1, 0), kind);
        TestKit.due("bits", x.block(1, 2), kind == 1 ? 10 + 9 * n : 35 + nothing + 8 * n);
        TestKit.due("bytes", x.block(1, 3), n);
        if (kind == 0) {
            byte[] out = TestKit.outOf(x);
            for (int bit = begin + 3; bit < begin + 3 + nothing; bit++) {
                TestKit.due("a bit that counts for nothing", out[bit / 8] >> bit % 8 & 1, 0);
            }
        }
    }

    @Says("A length 258 is symbol 285.")
    static void lengthOf258() {
        Bits want = new Bits().head(1, 1).letter(0).letter(285).distance(0).letter(256);
        TestKit.dueRow("259 zeros", TestKit.outOf(packed(new byte[259], RowPacker.BARE)), want.row());
        want = new Bits().head(1, 1).letter(0).letter(284).number(30, 5).distance(0).letter(256);
        TestKit.dueRow("258 zeros", TestKit.outOf(packed(new byte[258], RowPacker.BARE)), want.row());
    }

    /** In each KIND, and where no bit stands behind. */
    @Says("Bits behind the last block up to a byte's end are 0.")
    static void bitsBehindTheLastBlock() {
        boolean[] seen = new boolean[8];
        RowPacker x = TestKit.loaded(TestKit.filled(32768, 255));
        x.pack(RowPacker.BARE);
        for (int many = 0; many < 64; many++) {
            byte[] tape = withoutStretches(many, 61, many < 20 ? 150 : 40);
            TestKit.load(x, tape);
            x.pack(RowPacker.BARE);
            PlainUnpacker read = new PlainUnpacker(TestKit.outOf(x), RowPacker.BARE);
            TestKit.due("bits behind that are 1", read.bitsBehind.indexOf('1'), -1);
            seen[read.bitsBehind.length()] = true;
        }
        for (int bits = 0; bits < 8; bits++) {
            TestKit.due(bits + " bits behind were seen", seen[bits] ? 1 : 0, 1);
        }
    }

    @Says("Wrapped SHORT: bytes 120, 156 before")
    static void packedShort() {
        TestKit.dueRow("nothing", TestKit.outOf(packed(new byte[0], RowPacker.SHORT)),
            TestKit.row(120, 156, 3, 0, 0, 0, 0, 1));
        RowPacker x = packed(TestKit.row(97), RowPacker.SHORT);
        TestKit.dueRow("a", TestKit.outOf(x), TestKit.row(120, 156, 0x4b, 4, 0, 0, 98, 0, 98));
        TestKit.due("its block's first bit", x.block(0, 1), 16);
        x = packed(TestKit.filled(32768, 255), RowPacker.SHORT);
        byte[] out = TestKit.outOf(x);
        TestKit.dueRow("SUM A", Arrays.copyOfRange(out, out.length - 4, out.length), four(TestKit.loaded(
            TestKit.filled(32768, 255)).sum(0), true));
    }

    @Says("LONG: 31, 139, 8, 0, 0, 0, 0, 0, 0, 255 before, one member.")
    static void packedLong() {
        byte[] head = TestKit.row(31, 139, 8, 0, 0, 0, 0, 0, 0, 255);
        TestKit.dueRow("nothing", TestKit.outOf(packed(new byte[0], RowPacker.LONG)),
            TestKit.join(head, TestKit.row(3, 0), new byte[8]));
        RowPacker x = packed(TestKit.row(97), RowPacker.LONG);
        TestKit.dueRow("a", TestKit.outOf(x),
            TestKit.join(head, TestKit.row(0x4b, 4, 0, 0x43, 0xbe, 0xb7, 0xe8, 1, 0, 0, 0)));
        TestKit.due("its block's first bit", x.block(0, 1), 80);
        x = packed(TestKit.filled(32768, 255), RowPacker.LONG);
        byte[] out = TestKit.outOf(x);
        byte[] want = TestKit.join(four(TestKit.loaded(TestKit.filled(32768, 255)).sum(1), false), four(32768, false));
        TestKit.dueRow("SUM B and count", Arrays.copyOfRange(out, out.length - 8, out.length), want);
    }

    private static byte[] four(long number, boolean highestFirst) {
        byte[] row = new byte[4];
        for (int i = 0; i < 4; i++) {
            row[i] = (byte) (number >> (highestFirst ? 24 - 8 * i : 8 * i));
        }
        return row;
    }

    /** Noise of 32,768 bytes: OUT has more than a TAPE may have, 5 for each block. */
    @Says("OUT becomes the TAPE packed in a wrapper (of any length): how many bytes it has.")
    static void packedOfAnyLength() {
        byte[] noise = new byte[32768];
        new java.util.Random(3).nextBytes(noise);
        RowPacker x = TestKit.loaded(noise);
        PlainPacker due = new PlainPacker(noise);
        for (int wrapper = 0; wrapper < 3; wrapper++) {
            byte[] want = due.pack(wrapper);
            TestKit.due("pack(" + wrapper + ") of noise", x.pack(wrapper), want.length);
            TestKit.due("more than 32,768", want.length > 32768 ? 1 : 0, 1);
            TestKit.dueRow("noise", TestKit.outOf(x), want);
            TestKit.dueThrowWithoutChange(x, "turn", IllegalStateException.class, () -> x.turn());
        }
        TestKit.load(x, TestKit.row(5));
        TestKit.due("pack of a byte, behind much", x.pack(RowPacker.BARE), 3);
        TestKit.due("size", x.size(), 3);
    }

    @Says("No fault then. IllegalArgumentException.")
    static void packForgetsAFault() {
        RowPacker x = TestKit.loaded(TestKit.row(7));
        TestKit.due("unpack of KIND 3", x.unpack(RowPacker.BARE), RowPacker.NONE);
        TestKit.due("its fault", x.fault(), 2);
        TestKit.due("its place", x.place(), 1);
        for (int wrapper : new int[] {3, -1, Integer.MIN_VALUE, Integer.MAX_VALUE}) {
            TestKit.dueThrowWithoutChange(x, "pack(" + wrapper + ")", IllegalArgumentException.class,
                () -> x.pack(wrapper));
        }
        TestKit.due("the fault is still there", x.fault(), 2);
        x.pack(RowPacker.BARE);
        TestKit.due("no fault behind pack", x.fault(), 0);
        TestKit.due("no place behind pack", x.place(), RowPacker.NONE);
    }

    @Says("How many blocks the latest pack() made")
    static void blocksMade() {
        RowPacker x = TestKit.loaded(withoutStretches(3000, 61, 40));
        x.pack(RowPacker.SHORT);
        TestKit.due("blocks of 3,000 pieces", x.blocks(), 3);
        x.end(1024);
        TestKit.due("blocks are of the latest pack", x.blocks(), 3);
        x.pack(RowPacker.BARE);
        TestKit.due("blocks of 1,024 pieces", x.blocks(), 1);
        TestKit.dueThrow("block(1, 0)", IndexOutOfBoundsException.class, () -> x.block(1, 0));
        RowPacker full = TestKit.loaded(withoutStretches(32768, 241, 10));
        full.pack(RowPacker.BARE);
        TestKit.due("no stretches", full.stretches(), 0);
        TestKit.due("blocks of 32,768 pieces", full.blocks(), 32);
        TestKit.due("bytes of the last one", full.block(31, 3), 1024);
        TestKit.dueThrow("block(32, 0)", IndexOutOfBoundsException.class, () -> full.block(32, 0));
    }

    /** Block behind block: the first bit of each is behind the last one of the block before. */
    @Says({"its first bit (1; in OUT,", "with the head of a wrapper)", "how many bytes it stands for (3)"})
    static void blocksInOut() {
        byte[] noise = new byte[1500];
        new java.util.Random(8).nextBytes(noise);
        byte[] tape = TestKit.join(noise, withoutStretches(2000, 61, 40), new byte[3000]);
        RowPacker x = TestKit.loaded(tape);
        for (int wrapper = 0; wrapper < 3; wrapper++) {
            x.pack(wrapper);
            int bit = new int[] {0, 16, 80}[wrapper];
            int bytes = 0;
            for (int i = 0; i < x.blocks(); i++) {
                TestKit.due("first bit of block " + i, x.block(i, 1), bit);
                bit += x.block(i, 2);
                bytes += x.block(i, 3);
            }
            TestKit.due("bytes of all blocks", bytes, tape.length);
            TestKit.due("bits of all blocks", (bit + 7) / 8 + new int[] {0, 4, 8}[wrapper], x.size());
        }
    }

    /** A stretch in a block that is written PLAIN is met, too. */
    @Says("How many stretches the latest pack() or unpack() met")
    static void stretchesMet() {
        RowPacker x = TestKit.loaded(new byte[262]);
        x.pack(RowPacker.BARE);
        TestKit.due("stretches of 262 zeros", x.stretches(), 2);
        x.end(3);
        TestKit.due("stretches are of the latest pack", x.stretches(), 2);
        x.pack(RowPacker.BARE);
        TestKit.due("stretches of 3 zeros", x.stretches(), 0);
        byte[] each = new byte[256];
        for (int i = 0; i < 256; i++) {
            each[i] = (byte) (77 * i);
        }
        TestKit.load(x, TestKit.join(each, Arrays.copyOf(each, 3)));
        x.pack(RowPacker.BARE);
        TestKit.due("KIND of all bytes once", x.block(0, 0), 0);
        TestKit.due("stretches of a PLAIN block", x.stretches(), 1);
    }
}
