import java.util.ArrayList;
import java.util.Arrays;
import java.util.Collections;
import java.util.HashSet;
import java.util.List;
import java.util.Random;
import java.util.Set;

/** Promise 6: the edges of KIND 2 as it is packed: its codes by weights, and how they are told. */
public final class CodesTest {
    public static void main(String[] args) throws Exception {
        Edges.run(CodesTest.class);
        TestKit.finish();
    }

    /** What the blocks of KIND 2 tell that a TAPE is packed to. */
    private static List<PlainUnpacker.Told> told(byte[] tape) {
        RowPacker x = TestKit.loaded(tape);
        x.pack(RowPacker.BARE);
        PlainUnpacker read = new PlainUnpacker(TestKit.outOf(x), RowPacker.BARE);
        TestKit.dueRow("read again", read.unpacked, tape);
        for (int i = 0; i < x.blocks(); i++) {
            TestKit.due("KIND of block " + i, x.block(i, 0), 2);
        }
        return read.told;
    }

    /** Each of a prime number of letters as often as each other one, and no stretches. */
    private static byte[] evenly(int[] letters) {
        byte[] row = PiecesTest.withoutStretches(Math.min(1024 / letters.length, letters.length - 1) * letters.length,
            letters.length, 0);
        for (int i = 0; i < row.length; i++) {
            row[i] = (byte) letters[row[i]];
        }
        return row;
    }

    /** Letters from .. to - 1 for each two numbers. */
    private static int[] ranges(int... edges) {
        int[] all = new int[0];
        for (int i = 0; i < edges.length; i += 2) {
            int from = edges[i];
            int begin = all.length;
            all = Arrays.copyOf(all, begin + edges[i + 1] - from);
            for (int k = begin; k < all.length; k++) {
                all[k] = from + k - begin;
            }
        }
        return all;
    }

    private static void dueTold(String what, byte[] tape, Integer... want) {
        List<Integer> got = told(tape).get(0).symbols();
        if (!got.equals(Arrays.asList(want))) {
            TestKit.tellWrong(what + " told " + got + ", due are " + Arrays.asList(want));
        }
    }

    private static void dueLengths(String what, int[] got, int... want) {
        if (!Arrays.equals(got, want)) {
            TestKit.tellWrong(what + " are " + Arrays.toString(got) + ", due are " + Arrays.toString(want));
        }
    }

    /** Two blocks: what came in the first one has no code in the second one. */
    @Says("WEIGHTS of letters and distances are how often they come in the block (256 once).")
    static void weightsOfTheBlock() {
        // 1,022 bytes, a byte 1 and a stretch of it: 1,024 pieces.
        byte[] first = TestKit.join(PiecesTest.withoutStretches(1022, 61, 40), TestKit.filled(259, 1));
        byte[] tape = TestKit.join(first, evenly(ranges(200, 207)));
        List<PlainUnpacker.Told> both = told(tape);
        TestKit.due("blocks", both.size(), 2);
        int[] letters = both.get(1).letters();
        TestKit.due("letters of the second block", letters.length, 257);
        for (int letter = 0; letter < 257; letter++) {
            boolean comes = letter >= 200 && letter < 207 || letter == 256;
            TestKit.due("length of " + letter + " in the second block", letters[letter], comes ? 3 : 0);
        }
        dueLengths("lengths of distances in the first block", both.get(0).distances(), 1);
        dueLengths("lengths of distances in the second block", both.get(1).distances(), 0);
        letters = both.get(0).letters();
        TestKit.due("length of 200 in the first block", letters[200], 0);
        // 61 letters of 5 or 6 bits; 1, 256 and 285, which come once, share what one more of 6 bits would have.
        TestKit.due("length of 1 in the first block", letters[1], 8);
        TestKit.due("length of 256 in the first block", letters[256], 8);
        TestKit.due("length of 285 in the first block", letters[285], 7);
    }

    @Says("Of letters (15 bits at most) there are as many as up to the last one with a code, distances likewise")
    static void manyLettersAndDistances() {
        byte[] some = evenly(ranges(97, 104));
        TestKit.due("letters without a stretch", told(some).get(0).letters().length, 257);
        byte[] three = TestKit.join(some, Arrays.copyOf(some, 3));
        TestKit.due("letters with a length of 3", told(three).get(0).letters().length, 258);
        // 42 bytes back: symbol 10 is 33 .. 48.
        TestKit.due("distances up to 42", told(three).get(0).distances().length, 11);
        byte[] most = TestKit.join(some, TestKit.filled(259, 'z'));
        TestKit.due("letters with a length of 258", told(most).get(0).letters().length, 286);
        TestKit.due("distances up to 1", told(most).get(0).distances().length, 1);
        byte[] far = TestKit.join(some, new byte[4096 - some.length], Arrays.copyOf(some, 5));
        TestKit.due("distances up to 4,096", told(far).get(0).distances().length, 24);
    }

    @Says("distances likewise, at least one")
    static void noDistance() {
        byte[] some = evenly(ranges(97, 104));
        dueLengths("lengths of distances without a stretch", told(some).get(0).distances(), 0);
    }

    @Says("A distance that is the only one has 1 bit.")
    static void oneDistance() {
        byte[] some = evenly(ranges(97, 104));
        byte[] near = TestKit.join(some, TestKit.filled(300, 'z'));
        dueLengths("lengths of distances with 1 alone", told(near).get(0).distances(), 1);
        byte[] three = TestKit.join(some, Arrays.copyOf(some, 3));
        dueLengths("lengths of distances with 42 alone", told(three).get(0).distances(),
            0, 0, 0, 0, 0, 0, 0, 0, 0, 0, 1);
    }

    @Says("LENGTHS BY WEIGHTS of n symbols (n is 2 or more)")
    static void twoDistances() {
        byte[] some = evenly(ranges(97, 104));
        byte[] two = TestKit.join(some, Arrays.copyOf(some, 3), TestKit.filled(300, 'z'));
        dueLengths("lengths of distances with 1 and 42", told(two).get(0).distances(),
            1, 0, 0, 0, 0, 0, 0, 0, 0, 0, 1);
    }

    /** 256 weighs 1, all other letters the same; rows of an odd number of things come, too. */
    @Says({"besides the first two things of row k as one, the next two as one, and so on (one that is left over is left "
        + "out)", "by their weights (of two the sum of both)"})
    static void rowsOfThings() {
        for (int many : new int[] {7, 11, 13, 17, 19, 23, 29, 31, 37, 61, 127}) {
            byte[] tape = evenly(ranges(97, 97 + many));
            int[] letters = told(tape).get(0).letters();
            int bits = 31 - Integer.numberOfLeadingZeros(many + 1);
            // Symbols of nearly one weight have two lengths at most, one bit apart.
            int shorter = (2 << bits) - (many + 1);
            for (int i = 0; i < many; i++) {
                TestKit.due("length " + i + " of " + many, letters[97 + i], bits + (i < many - shorter ? 1 : 0));
            }
            TestKit.due("length of 256 with " + many, letters[256], shorter > many ? bits : bits + 1);
        }
    }

    private static int threeAt(byte[] row, int i) {
        return (row[i] & 255) << 16 | (row[i + 1] & 255) << 8 | row[i + 2] & 255;
    }

    /** Behind a first block without stretches one of stretches alone, of given lengths, each so many times. */
    private static byte[] ofStretches(int[] lengths, int[] times) {
        List<Integer> all = new ArrayList<>();
        for (int i = 0; i < lengths.length; i++) {
            all.addAll(Collections.nCopies(times[i], lengths[i]));
        }
        Random random = new Random(0);
        Collections.shuffle(all, random);
        byte[] row = Arrays.copyOf(PiecesTest.withoutStretches(1024, 241, 10), 32768);
        Set<Integer> seen = new HashSet<>();
        int entered = 0;
        int many = 1024;
        for (int length : all) {
            while (entered + 2 < many) {
                seen.add(threeAt(row, entered));
                entered++;
            }
            // Three bytes that go over its begin must be new, or the stretch before it would go on.
            boolean goesOn = true;
            for (int i = 0; goesOn && i < 1000; i++) {
                System.arraycopy(row, many - length - random.nextInt(1000), row, many, length);
                goesOn = seen.contains(threeAt(row, many - 2)) || seen.contains(threeAt(row, many - 1));
            }
            many += length;
        }
        return Arrays.copyOf(row, many);
    }

    /**
     * Weights that are Fibonacci's numbers, from 377 down to 1 and 1, 256 among them: lengths 1, 2, 3, .. 13, 13. A
     * block has 1,025 weights at most, so that more than 14 bits never come, and the bound of 15 is never met.
     */
    @Says("Of row m the first 2 n - 2 things are taken")
    static void lengthsOfThirteenBits() {
        byte[] tape = ofStretches(new int[] {3, 4, 5, 6, 7, 8, 9, 10, 11, 13, 15, 17, 19},
            new int[] {377, 233, 144, 89, 55, 34, 21, 13, 8, 5, 3, 2, 1});
        RowPacker x = TestKit.loaded(tape);
        x.pack(RowPacker.BARE);
        TestKit.due("blocks", x.blocks(), 2);
        TestKit.due("KIND of the second one", x.block(1, 0), 2);
        TestKit.due("stretches", x.stretches(), 985);
        PlainUnpacker read = new PlainUnpacker(TestKit.outOf(x), RowPacker.BARE);
        TestKit.dueRow("read again", read.unpacked, tape);
        int[] letters = read.told.get(read.told.size() - 1).letters();
        dueLengths("lengths from 256 on", Arrays.copyOfRange(letters, 256, letters.length),
            13, 1, 2, 3, 4, 5, 6, 7, 8, 9, 10, 11, 12, 13);
        TestKit.dueRow("as the slow packer packs it", TestKit.outOf(x), new PlainPacker(tape).pack(RowPacker.BARE));
    }

    /** Of letters that come as often as one another the first ones get the longer codes. */
    @Says("ROW 1 has the symbols, by weights, by their numbers where these are the same.")
    static void sameWeights() {
        int[] eleven = told(evenly(ranges(97, 108))).get(0).letters();
        dueLengths("lengths of eleven letters", Arrays.copyOfRange(eleven, 97, 108), 4, 4, 4, 4, 4, 4, 4, 3, 3, 3, 3);
        TestKit.due("length of 256", eleven[256], 4);
        int[] thirteen = told(evenly(ranges(97, 110))).get(0).letters();
        dueLengths("lengths of thirteen letters", Arrays.copyOfRange(thirteen, 97, 110),
            4, 4, 4, 4, 4, 4, 4, 4, 4, 4, 4, 3, 3);
    }

    /** Weights: 256 1, d 3, a 4, b 5, c 8; a comes before 256 and d together. */
    @Says("a symbol before two things of the same weight")
    static void symbolBeforeTwo() {
        int[] letters = told("dbcdacccabdcaabccbcb".getBytes()).get(0).letters();
        dueLengths("lengths of a, b, c, d", Arrays.copyOfRange(letters, 97, 101), 2, 2, 2, 3);
        TestKit.due("length of 256", letters[256], 3);
    }

    /** Codes that grow longer with weights that double: no two lengths but the last are the same. */
    @Says({"Of row m the first 2 n - 2 things are taken: the length of a symbol is how often it is in them.",
        "LENGTHS' weights are how often symbols come there"})
    static void lengthsOfUnlikeWeights() {
        // 17: 2, 18: 3, 0: 4 and 3: 8 times (lengthsOfGaps has the row).
        int[] lengths = told(evenly(new int[] {0, 2, 5, 9, 20, 32, 171})).get(0).lengthsOfLengths();
        int[] want = new int[19];
        want[3] = 1;
        want[0] = 2;
        want[17] = 3;
        want[18] = 3;
        dueLengths("lengths of LENGTHS", lengths, want);
    }

    @Says({"as long as 11 or more lengths 0 come, 18 for as many (138 at most); for 3 to 10, 17",
        "fewer by themselves"})
    static void lengthsOfGaps() {
        dueTold("1, 2, 3, 10, 11, 138 and 84 zeros", evenly(new int[] {0, 2, 5, 9, 20, 32, 171}),
            3, 0, 3, 0, 0, 3, 17, 3, 17 + 700, 3, 18, 3, 18 + 12700, 3, 18 + 7300, 3, 0);
        dueTold("4, 9, 12, 142 and 82 zeros", evenly(new int[] {4, 5, 15, 16, 29, 172, 173}),
            17 + 100, 3, 3, 17 + 600, 3, 3, 18 + 100, 3, 18 + 12700, 17 + 100, 3, 3, 18 + 7100, 3, 0);
        dueTold("139 and 110 zeros", withGap(139), 3, 16 + 200, 18 + 12700, 0, 3, 18 + 9900, 3, 0);
        dueTold("140 and 109 zeros", withGap(140), 3, 16 + 200, 18 + 12700, 0, 0, 3, 18 + 9800, 3, 0);
        dueTold("141 and 108 zeros", withGap(141), 3, 16 + 200, 18 + 12700, 17, 3, 18 + 9700, 3, 0);
        dueTold("148 and 101 zeros", withGap(148), 3, 16 + 200, 18 + 12700, 17 + 700, 3, 18 + 9000, 3, 0);
        dueTold("149 and 100 zeros", withGap(149), 3, 16 + 200, 18 + 12700, 18, 3, 18 + 8900, 3, 0);
        dueTold("137 and 112 zeros", withGap(137), 3, 16 + 200, 18 + 12600, 3, 18 + 10100, 3, 0);
        dueTold("10 and 239 zeros", withGap(10), 3, 16 + 200, 17 + 700, 3, 18 + 12700, 18 + 9000, 3, 0);
        dueTold("249 zeros", withGap(249), 3, 16 + 200, 18 + 12700, 18 + 10000, 3, 3, 0);
    }

    /** Letters 0 to 5, and one behind so many that do not come. */
    private static byte[] withGap(int gap) {
        return evenly(new int[] {0, 1, 2, 3, 4, 5, 6 + gap});
    }

    /** 31 letters of 5 bits in runs of 3, 4, 7, 8, 9; of 10, 13, 5, 3; of 6, 2, 1, 17, 5. */
    @Says("another length by itself, and then, as long as it comes 3 or more times again, 16 for as many (6 at most)")
    static void lengthsOfRuns() {
        dueTold("runs of 3, 4, 7, 8, 9", evenly(ranges(10, 13, 20, 24, 30, 37, 40, 48, 60, 69)),
            17 + 700, 5, 5, 5, 17 + 400, 5, 16, 17 + 300, 5, 16 + 300, 17, 5, 16 + 300, 5, 18 + 100,
            5, 16 + 300, 5, 5, 18 + 12700, 18 + 3800, 5, 0);
        dueTold("runs of 10, 13, 5, 3", evenly(ranges(0, 10, 13, 26, 29, 34, 37, 40)),
            5, 16 + 300, 16, 17, 5, 16 + 300, 16 + 300, 17, 5, 16 + 100, 17, 5, 5, 5,
            18 + 12700, 18 + 6700, 5, 0);
        dueTold("runs of 6, 2, 1, 17, 5", evenly(ranges(0, 6, 9, 11, 14, 15, 18, 35, 38, 43)),
            5, 16 + 200, 17, 5, 5, 17, 5, 17, 5, 16 + 300, 16 + 300, 16 + 100, 17, 5, 16 + 100,
            18 + 12700, 18 + 6400, 5, 0);
    }

    /** The last letter, 259, and the first three distances have 3 bits: one row, told by 3 and 16. */
    @Says("The row of lengths is told so")
    static void lettersAndDistancesInOneRow() {
        byte[] tape = "aaababaabaddadadaccaabacdbaaaaaabccbabbaaacaabaabadaaaaa".getBytes();
        PlainUnpacker.Told block = told(tape).get(0);
        TestKit.due("letters", block.letters().length, 260);
        TestKit.due("length of 259", block.letters()[259], 3);
        dueLengths("lengths of distances", block.distances(), 3, 3, 3, 0, 0, 0, 0, 3, 2, 3, 3);
        dueTold("letters and distances", tape, 18 + 8600, 3, 4, 3, 3, 18 + 12700, 18 + 600, 4, 3, 2, 3, 16,
            17 + 100, 3, 2, 3, 3);
    }

    private static final int[] SKEW = {59, 200, 86, 16, 180, 200, 177, 216, 177, 200, 81, 200, 31, 244, 151, 188, 152,
        188, 200, 200, 168, 190, 81, 200, 200, 81, 200, 167, 200, 168, 36, 253, 151, 79, 60, 180, 46, 64, 195, 157,
        232, 36, 200, 105, 48, 244, 10, 255, 244, 139, 168, 151, 242, 200, 111, 81, 80, 196, 200, 200, 200, 149, 244,
        47, 24, 180, 200, 207, 218, 158, 180, 69, 48, 200, 216, 6, 109, 85, 69, 200, 230, 143, 140, 200, 216, 90, 97,
        81, 200, 188, 200, 200, 200, 180, 218, 144, 200, 21, 151, 180, 207, 200, 150, 136, 90, 187, 200, 81, 200, 81,
        200, 69, 200, 200, 200, 144, 4, 200, 223, 177, 149, 200, 200, 98, 155, 48, 200, 206, 190, 140, 200, 200, 200,
        156, 11, 200, 200, 145, 200, 200, 200, 200, 200, 200, 200, 200, 200, 200, 200, 180};

    /** A row of lengths whose symbols' weights would make a code of 8 bits, if that might be. */
    @Says({"for at most m bits", "(7 bits at most; c is the least that tells all.)"})
    static void lengthsOfSevenBits() {
        PlainUnpacker.Told block = told(TestKit.row(SKEW)).get(0);
        int[] weights = new int[19];
        for (int symbol : block.symbols()) {
            weights[symbol % 100]++;
        }
        int[] longer = PlainPacker.lengthsByWeights(weights, 15);
        TestKit.due("the longest without a bound", Arrays.stream(longer).max().getAsInt(), 8);
        TestKit.due("the longest", Arrays.stream(block.lengthsOfLengths()).max().getAsInt(), 7);
        dueLengths("lengths of LENGTHS", block.lengthsOfLengths(), PlainPacker.lengthsByWeights(weights, 7));
    }

    @Says("c is the least that tells all")
    static void numbersOfLengths() {
        // The last one of these in the order is 7, the sixth; 5, the tenth; 3, the fourteenth; 1, the eighteenth.
        TestKit.due("numbers with 7", told(evenly(ranges(0, 127))).get(0).numbers(), 6);
        TestKit.due("numbers with 5", told(evenly(ranges(0, 31))).get(0).numbers(), 10);
        TestKit.due("numbers with 3", told(evenly(ranges(0, 7))).get(0).numbers(), 14);
        byte[] one = TestKit.join(evenly(ranges(0, 7)), TestKit.filled(300, 'z'));
        TestKit.due("numbers with 1", told(one).get(0).numbers(), 18);
    }
}
