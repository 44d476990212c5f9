import java.util.ArrayList;
import java.util.Arrays;
import java.util.Collections;
import java.util.List;
import java.util.Random;
import java.util.zip.Deflater;

/** Promises 7 and 14 to 16: what good packed rows unpack to, at the edges of what they may be. */
public final class UnpackTest {
    private static final int[] LENGTH_FROM = {3, 4, 5, 6, 7, 8, 9, 10, 11, 13, 15, 17, 19, 23, 27, 31, 35, 43, 51, 59,
        67, 83, 99, 115, 131, 163, 195, 227, 258};
    private static final int[] LENGTH_BITS = {0, 0, 0, 0, 0, 0, 0, 0, 1, 1, 1, 1, 2, 2, 2, 2, 3, 3, 3, 3, 4, 4, 4, 4, 5,
        5, 5, 5, 0};
    private static final int[] DISTANCE_FROM = {1, 2, 3, 4, 5, 7, 9, 13, 17, 25, 33, 49, 65, 97, 129, 193, 257, 385,
        513, 769, 1025, 1537, 2049, 3073, 4097, 6145, 8193, 12289, 16385, 24577};
    private static final int[] DISTANCE_BITS = {0, 0, 0, 0, 1, 1, 2, 2, 3, 3, 4, 4, 5, 5, 6, 6, 7, 7, 8, 8, 9, 9, 10,
        10, 11, 11, 12, 12, 13, 13};

    public static void main(String[] args) throws Exception {
        Edges.run(UnpackTest.class);
        rowsOfTheLibrary();
        TestKit.finish();
    }

    private static RowPacker dueUnpacked(String what, byte[] tape, int wrapper, byte[] want) {
        RowPacker x = TestKit.loaded(tape);
        TestKit.due(what + ": unpack", x.unpack(wrapper), want.length);
        TestKit.due(what + ": fault", x.fault(), 0);
        TestKit.due(what + ": place", x.place(), RowPacker.NONE);
        TestKit.dueRow(what, TestKit.outOf(x), want);
        return x;
    }

    private static RowPacker dueUnpacked(String what, Bits tape, int... want) {
        return dueUnpacked(what, tape.row(), RowPacker.BARE, TestKit.row(want));
    }

    static void dueBlock(String what, RowPacker x, int i, int... want) {
        for (int k = 0; k < 4; k++) {
            TestKit.due(what + ": block(" + i + ", " + k + ")", x.block(i, k), want[k]);
        }
    }

    private static void rowsOfTheLibrary() {
        int[] strategies = {Deflater.DEFAULT_STRATEGY, Deflater.FILTERED, Deflater.HUFFMAN_ONLY};
        for (int seed = 0; seed < 120; seed++) {
            Random random = new Random(seed);
            byte[] bytes = new byte[random.nextInt(seed % 4 == 0 ? 60000 : 4000)];
            int bound = 1 + random.nextInt(seed % 3 == 0 ? 60 : 8);
            for (int i = 0; i < bytes.length; i++) {
                bytes[i] = (byte) (random.nextInt(9) == 0 ? random.nextInt(bound) : i < 7 ? i : bytes[i - 7]);
            }
            int wrapper = seed % 2;
            Deflater deflater = new Deflater(seed % 10, wrapper == 0);
            deflater.setStrategy(strategies[seed % 3]);
            deflater.setInput(bytes);
            deflater.finish();
            byte[] packed = new byte[70000];
            int many = 0;
            while (!deflater.finished()) {
                many += deflater.deflate(packed, many, packed.length - many);
            }
            deflater.end();
            if (many <= 32768) {
                dueUnpacked("library's row " + seed, Arrays.copyOf(packed, many), wrapper, bytes);
            }
        }
    }

    /** Three blocks of 19 bits: they begin at bits 0, 19 and 38, in the first, third and fifth byte. */
    @Says("bit 0 is the lowest one of the first byte, bit 7 its highest, bit 8 the lowest one of the second byte")
    static void orderOfBits() {
        Bits bits = new Bits();
        for (int i = 0; i < 3; i++) {
            bits.head(i == 2 ? 1 : 0, 1).letter(255).letter(256);
        }
        RowPacker x = dueUnpacked("three blocks", bits, 255, 255, 255);
        for (int i = 0; i < 3; i++) {
            dueBlock("three blocks", x, i, 1, 19 * i, 19, 1);
        }
        TestKit.dueRow("as bytes", bits.row(), TestKit.row(0xFA, 0x0F, 0xD0, 0x7F, 0xC0, 0xFE, 0x03, 0));
    }

    /** 0x4b 4 0 is 1, 1 as 10, 97 as 10010001, 256 as 0000000: the KIND's lowest bit first, the code's highest. */
    @Says("A NUMBER of n bits stands with its lowest bit first, a CODE with its highest bit first.")
    static void numbersAndCodes() {
        dueUnpacked("a", TestKit.row(0x4b, 4, 0), RowPacker.BARE, TestKit.row(97));
        Bits number = new Bits().head(1, 1).letter(7).letter(265).number(1, 1).distance(0).letter(256);
        TestKit.due("bytes of a length of 12", dueUnpacked("265 and 1", number.row(), RowPacker.BARE,
            TestKit.filled(13, 7)).size(), 13);
        // 269 and the bits 0, 1 are 19 + 2, not 19 + 1.
        Bits two = new Bits().head(1, 1).letter(7).letter(269).word("01").distance(0).letter(256);
        dueUnpacked("269 and 2", two.row(), RowPacker.BARE, TestKit.filled(22, 7));
    }

    @Says("A block begins with a bit, 1 for the last block alone")
    static void lastBlock() {
        RowPacker x = dueUnpacked("1 at the last of three", new Bits().plain(0, 1).plain(0, 2).plain(1, 3), 1, 2, 3);
        TestKit.due("blocks", x.blocks(), 3);
        x = TestKit.loaded(new Bits().plain(0, 1).plain(1, 2).plain(1, 3).row());
        TestKit.due("1 at the second of three", x.unpack(RowPacker.BARE), RowPacker.NONE);
        TestKit.due("something behind the end", x.fault(), 11);
        TestKit.due("blocks", x.blocks(), 2);
        x = TestKit.loaded(new Bits().plain(0, 1).plain(0, 2).plain(0, 3).row());
        TestKit.due("1 at none of three", x.unpack(RowPacker.BARE), RowPacker.NONE);
        TestKit.due("an early end", x.fault(), 1);
        TestKit.due("blocks", x.blocks(), 3);
    }

    /** A PLAIN block that begins at each bit of a byte; bits before its numbers are all 0, or all 1. */
    @Says("bits up to the begin of the next byte (there may be none) count for nothing")
    static void bitsBeforePlainNumbers() {
        boolean[] seen = new boolean[8];
        for (int nines = 0; nines < 8; nines++) {
            for (int value = 0; value < 2; value++) {
                Bits bits = new Bits().head(0, 1);
                int[] want = new int[nines + 1];
                for (int i = 0; i < nines; i++) {
                    bits.letter(200);
                    want[i] = 200;
                }
                int begin = bits.letter(256).length();
                int nothing = -(begin + 3) & 7;
                seen[nothing] = true;
                bits.head(1, 0).number(value == 0 ? 0 : (1 << nothing) - 1, nothing);
                want[nines] = 9;
                RowPacker x = dueUnpacked(nothing + " bits", bits.number(1, 16).number(65534, 16).bytes(9), want);
                dueBlock(nothing + " bits", x, 1, 0, begin, 3 + nothing + 40, 1);
            }
        }
        for (int nothing = 0; nothing < 8; nothing++) {
            TestKit.due(nothing + " bits were seen", seen[nothing] ? 1 : 0, 1);
        }
    }

    @Says("a number n of 16 bits; 65535 - n likewise; n bytes.")
    static void plainNumbers() {
        Random random = new Random(2);
        for (int n : new int[] {0, 1, 255, 256, 257, 32762, 32763}) {
            int[] values = random.ints(n, 0, 256).toArray();
            RowPacker x = dueUnpacked("PLAIN of " + n, new Bits().plain(1, values), values);
            dueBlock("PLAIN of " + n, x, 0, 0, 0, 40 + 8 * n, n);
        }
        RowPacker x = TestKit.loaded(TestKit.row(1, 255, 255, 0, 0));
        TestKit.due("65,535 bytes that are not there", x.unpack(RowPacker.BARE), RowPacker.NONE);
        TestKit.due("an early end", x.fault(), 1);
        TestKit.due("at the end", x.place(), 40);
    }

    /** Each length in each form: 258 is 285, or 284 and 31. */
    @Says({"for i below 8 it is 3 + i; for 28 it is 258",
        "for others, with e = i / 4 - 1 (cut off), (4 + i % 4) * 2^e + 3 and a number of e bits that follows"})
    static void everyLength() {
        for (int i = 0; i < 29; i++) {
            for (int number = 0; number < 1 << LENGTH_BITS[i]; number++) {
                Bits row = new Bits().head(1, 1).letter(200).letter(257 + i).number(number, LENGTH_BITS[i]);
                byte[] want = TestKit.filled(1 + LENGTH_FROM[i] + number, 200);
                RowPacker x = dueUnpacked("letter " + (257 + i) + " and " + number,
                    row.distance(0).letter(256).row(), RowPacker.BARE, want);
                TestKit.due("stretches", x.stretches(), 1);
            }
        }
    }

    /** The least and the greatest distance of each symbol; 32,768 is the greatest of all. */
    @Says({"for j below 4 the distance is 1 + j",
        "for others, with e = j / 2 - 1, it is (2 + j % 2) * 2^e + 1 and a number of e bits that follows"})
    static void everyDistance() {
        byte[] some = PiecesTest.withoutStretches(1024, 61, 40);
        Bits before = new Bits();
        for (byte value : some) {
            before.letter(value);
        }
        byte[] want = Arrays.copyOf(some, 33028);
        for (int begin = 1024; begin < 32768; begin += 250) {
            before.letter(284).number(23, 5).distance(19).number(255 - begin / 250 % 7, 8);
            repeat(want, begin, 1024 - begin / 250 % 7, 250);
        }
        int many = 1024 + 127 * 250;
        before.letter(257).distance(0).letter(257).distance(0);
        repeat(want, many, 1, 6);
        many += 6;
        for (int j = 0; j < 30; j++) {
            for (int number : new int[] {0, (1 << DISTANCE_BITS[j]) - 1}) {
                Bits row = new Bits().head(1, 1).add(before).letter(257).distance(j).number(number, DISTANCE_BITS[j]);
                repeat(want, many, DISTANCE_FROM[j] + number, 3);
                dueUnpacked("distance " + (DISTANCE_FROM[j] + number), row.letter(256).row(), RowPacker.BARE,
                    Arrays.copyOf(want, many + 3));
            }
        }
    }

    private static void repeat(byte[] row, int from, int distance, int many) {
        for (int i = from; i < from + many; i++) {
            row[i] = row[i - distance];
        }
    }

    /** Distances below, at and above the length; up to the very first byte; and into blocks of other KINDs. */
    @Says("so many bytes, each like the one that stands the distance before it, of all that was unpacked")
    static void stretchesOverAll() {
        Bits near = new Bits().head(1, 1).letter(1).letter(2).letter(3);
        near.letter(259).distance(1).letter(257).distance(2).letter(258).distance(7 - 1).number(2, 2).letter(256);
        dueUnpacked("2, 3 and 11 back", near, 1, 2, 3, 2, 3, 2, 3, 2, 2, 3, 2, 1, 2, 3, 2);
        Bits over = new Bits().plain(0, 1, 2, 3, 4).head(0, 1).letter(5).letter(256);
        over.head(1, 1).letter(258).distance(4).number(0, 1).letter(256);
        RowPacker x = dueUnpacked("from a PLAIN block on", over, 1, 2, 3, 4, 5, 1, 2, 3, 4);
        TestKit.due("bytes of the last block", x.block(2, 3), 4);
    }

    /** All lengths of the code of LENGTHS, as an array of 19. */
    private static int[] lengthsOfLengths(int... symbolsAndLengths) {
        int[] lengths = new int[19];
        for (int i = 0; i < symbolsAndLengths.length; i += 2) {
            lengths[symbolsAndLengths[i]] = symbolsAndLengths[i + 1];
        }
        return lengths;
    }

    /** A block of KIND 2 whose row of lengths is told one by one, 0 to 15, with a code of 4 bits for each. */
    private static Bits oneByOne(int[] letters, int[] distances) {
        int[] lengths = new int[19];
        Arrays.fill(lengths, 0, 16, 4);
        List<Integer> told = new ArrayList<>();
        Arrays.stream(letters).forEach(told::add);
        Arrays.stream(distances).forEach(told::add);
        return new Bits().head(1, 2).codes(letters.length, distances.length, lengths).lengths(lengths, told);
    }

    private static int[] letters(int many, int... lettersAndLengths) {
        int[] letters = new int[many];
        for (int i = 0; i < lettersAndLengths.length; i += 2) {
            letters[lettersAndLengths[i]] = lettersAndLengths[i + 1];
        }
        return letters;
    }

    @Says({"in the order of lengths, and of symbols where these are the same, the first one has only bits 0",
        "each other one is the number before and 1, with bits 0 behind it where it is longer"})
    static void codesByLengths() {
        // Lengths 3, 1, 3, 3, 3 in the order of symbols: 100, 0, 101, 110, 111.
        Bits wide = oneByOne(letters(257, 10, 3, 20, 1, 30, 3, 40, 3, 256, 3), new int[1]);
        dueUnpacked("lengths 1 and 3", wide.word("100").word("0").word("101").word("110").word("0").word("111"),
            10, 20, 30, 40, 20);
        Bits same = oneByOne(letters(257, 10, 2, 20, 2, 30, 2, 256, 2), new int[1]);
        dueUnpacked("lengths 2 alone", same.word("00").word("10").word("01").word("11"), 10, 30, 20);
    }

    /** 1, 2, 3, .. 14, 15, 15: letters and distances of 15 bits. */
    @Says("Those that have one get codes of as many bits")
    static void codesOfFifteenBits() {
        int[] letters = letters(258, 256, 15, 257, 2);
        int[] distances = new int[16];
        letters[0] = 1;
        for (int i = 1; i < 14; i++) {
            letters[i] = i + 2;
        }
        for (int i = 0; i < 16; i++) {
            distances[i] = Math.min(15, i + 1);
        }
        String ones = "111111111111111";
        Bits bits = oneByOne(letters, distances);
        // Of 15 bits are letters 13 and 256: 14 ones and a 0, 15 ones.
        bits.word("0").word(ones.substring(0, 14)).word("0").word("10").word("0").word(ones);
        dueUnpacked("letters of 15 bits", bits, 0, 13, 13, 13, 13);
        bits = oneByOne(letters, distances).word("0");
        for (int i = 0; i < 100; i++) {
            bits.word("10").word("0");
        }
        // Distance 15 is symbol 15, 193 and a number of 6 bits: the first 0 is 300 bytes before the last ones.
        bits.word("10").word(ones).number(63, 6).word(ones);
        RowPacker x = TestKit.loaded(bits.row());
        TestKit.due("distances of 15 bits", x.unpack(RowPacker.BARE), 304);
    }

    /** The edges of KIND 1's lengths, by the bits that stand there. */
    @Says("letters 0 .. 143 have 8, 144 .. 255 have 9, 256 .. 279 have 7, 280 .. 287 have 8; distances 0 .. 31 have 5")
    static void lettersOfKindOne() {
        Bits bits = new Bits().head(1, 1).word("00110000").word("10111111").word("110010000").word("111111111");
        dueUnpacked("0, 143, 144, 255", bits.word("0000000"), 0, 143, 144, 255);
        bits = new Bits().head(1, 1).word("00110111").word("0000001").word("00000").word("0000000");
        dueUnpacked("257", bits, 7, 7, 7, 7);
        bits = new Bits().head(1, 1).word("00110111").word("0010111").number(3, 4).word("00000").word("0000000");
        dueUnpacked("279", bits.row(), RowPacker.BARE, TestKit.filled(1 + 99 + 3, 7));
        bits = new Bits().head(1, 1).word("00110111").word("11000000").number(0, 4).word("00000").word("0000000");
        dueUnpacked("280", bits.row(), RowPacker.BARE, TestKit.filled(1 + 115, 7));
        bits = new Bits().head(1, 1).word("00110111").word("11000101").word("00000").word("0000000");
        dueUnpacked("285", bits.row(), RowPacker.BARE, TestKit.filled(1 + 258, 7));
    }

    /** From 257 letters and 1 distance to 286 and 30. */
    @Says("there are 257 + h letters, 1 + d distances")
    static void manyLettersAndDistances() {
        for (int h : new int[] {0, 1, 28, 29}) {
            for (int d : new int[] {0, 1, 28, 29}) {
                int[] letters = letters(257 + h, 97, 1, 256, h == 0 ? 1 : 2);
                int[] distances = new int[1 + d];
                distances[d] = 1;
                if (h > 0) {
                    letters[256 + h] = 2;
                }
                dueUnpacked("h " + h + ", d " + d, oneByOne(letters, distances).word("0").word(h == 0 ? "1" : "10"),
                    97);
            }
        }
    }

    /** The second block tells fewer numbers: lengths of the first block's code do not count there. */
    @Says("Then 4 + c numbers of 3 bits: lengths for the code of LENGTHS")
    static void numbersOfLengths() {
        int[] few = lengthsOfLengths(1, 1, 18, 2, 0, 2);
        List<Integer> told = List.of(18 + 8600, 1, 18 + 12700, 18 + 900, 1, 0);
        // Symbol 15 alone is not told again: it had a length, and so had letter 15.
        Bits bits = oneByOne(letters(257, 15, 1, 256, 1), new int[1]).word("0").word("1");
        Bits first = new Bits().head(0, 2).add(bits.from(3));
        first.head(1, 2).number(0, 5).number(0, 5).number(14, 4);
        for (int i = 0; i < 18; i++) {
            first.number(few[Bits.ORDER[i]], 3);
        }
        dueUnpacked("19 numbers, then 18", first.lengths(few, told).word("0").word("0").word("1"), 15, 97, 97);
        // Four numbers tell 16, 17, 18 and 0: no letter can have a code then.
        Bits four = new Bits().head(1, 2).number(0, 5).number(0, 5).number(0, 4).number(2, 3).number(2, 3);
        four.number(2, 3).number(2, 3);
        four.lengths(lengthsOfLengths(16, 2, 17, 2, 18, 2, 0, 2), List.of(18 + 12700, 18 + 10900));
        RowPacker x = TestKit.loaded(four.row());
        TestKit.due("four numbers", x.unpack(RowPacker.BARE), RowPacker.NONE);
        TestKit.due("no letter has a code", x.fault(), 5);
        TestKit.due("behind all lengths", x.place(), four.length());
    }

    /** Each symbol of LENGTHS in turns has 1 bit and is used: at another place in the order it would be another one. */
    @Says("16, 17, 18, 0, 8, 7, 9, 6, 10, 5, 11, 4, 12, 3, 13, 2, 14, 1, 15 in this order (the others have 0)")
    static void orderOfLengths() {
        for (int symbol = 0; symbol < 19; symbol++) {
            int[] lengths = new int[19];
            Arrays.fill(lengths, 0, 16, 5);
            lengths[symbol == 0 ? 1 : 0] = symbol < 16 ? 4 : 5;
            lengths[symbol] = 1;
            int longest = symbol == 0 || symbol > 15 ? 1 : symbol;
            List<Integer> told = new ArrayList<>();
            for (int i = 1; i <= longest; i++) {
                told.add(i);
            }
            told.addAll(zerosBy(symbol, 256 - longest));
            told.addAll(List.of(longest, 0));
            Bits bits = new Bits().head(1, 2).codes(257, 1, lengths).lengths(lengths, told);
            String ones = "1".repeat(longest - 1);
            dueUnpacked("symbol " + symbol, bits.word("0").word(ones + "0").word(ones + "1"), 0, longest - 1);
        }
    }

    private static List<Integer> zerosBy(int symbol, int many) {
        List<Integer> told = new ArrayList<>();
        int left = many;
        if (symbol == 16) {
            told.add(0);
            left--;
        }
        int most = symbol == 16 ? 6 : symbol == 17 ? 10 : symbol == 18 ? 138 : 1;
        int least = symbol == 18 ? 11 : 3;
        while (symbol > 15 && left >= least) {
            int some = Math.min(left, most);
            told.add(symbol + 100 * (some - least));
            left -= some;
        }
        told.addAll(Collections.nCopies(left, 0));
        return told;
    }

    /** In a code that was made: 0 and 255, 256, 257 and 285, each of 3 bits or of 2. */
    @Says("0 .. 255 are bytes, 256 is the end of the block, 257 + i (i is 0 .. 28) a length")
    static void lettersAtTheEdges() {
        int[] letters = letters(286, 0, 2, 255, 2, 256, 2, 257, 3, 285, 3);
        Bits bits = oneByOne(letters, new int[] {1}).word("00").word("01").word("110").word("0").word("111").word("0");
        int[] want = new int[2 + 3 + 258];
        Arrays.fill(want, 255);
        want[0] = 0;
        RowPacker x = dueUnpacked("0, 255, 257, 285, 256", bits.word("10"), want);
        TestKit.due("stretches", x.stretches(), 2);
    }

    private static final int[] ALL = lengthsOfLengths(0, 3, 1, 3, 2, 3, 3, 3, 4, 3, 16, 3, 17, 3, 18, 3);

    /** Behind letter 0 so many of 3 bits, told by 16; letter 255 and 256 have what makes the code full. */
    @Says("0 .. 15 is that length; 16 the one before it, 3 and a number of 2 bits times")
    static void repeatedLengths() {
        int[][] rest = {{0, 1}, {3, 2}, {0, 2}, {0, 3}};
        for (int again = 3; again <= 6; again++) {
            List<Integer> told = new ArrayList<>(List.of(3, 16 + 100 * (again - 3)));
            told.addAll(Collections.nCopies(255 - 1 - again, 0));
            told.addAll(List.of(rest[again - 3][0], rest[again - 3][1], 0));
            int[] lengths = letters(257, 255, rest[again - 3][0], 256, rest[again - 3][1]);
            Arrays.fill(lengths, 0, again + 1, 3);
            String[] words = Bits.wordsOf(lengths);
            Bits bits = new Bits().head(1, 2).codes(257, 1, ALL).lengths(ALL, told);
            dueUnpacked("16 for " + again, bits.word(words[again]).word(words[0]).word(words[256]), again, 0);
        }
        // The one before it may be a 0 that 17 told.
        List<Integer> told = new ArrayList<>(List.of(1, 17, 16 + 200, 2));
        told.addAll(Collections.nCopies(256 - 10, 0));
        told.addAll(List.of(2, 0));
        Bits bits = new Bits().head(1, 2).codes(257, 1, ALL).lengths(ALL, told);
        dueUnpacked("16 behind 17", bits.word("0").word("10").word("11"), 0, 9);
    }

    @Says("17 as often 0 as 3 and a number of 3 bits; 18 as 11 and a number of 7 bits")
    static void repeatedZeros() {
        for (int zeros : new int[] {3, 4, 9, 10, 11, 12, 137, 138}) {
            List<Integer> told = new ArrayList<>(List.of(1));
            told.add(zeros < 11 ? 17 + 100 * (zeros - 3) : 18 + 100 * (zeros - 11));
            told.add(2);
            told.addAll(Collections.nCopies(256 - 2 - zeros, 0));
            told.addAll(List.of(2, 0));
            Bits bits = new Bits().head(1, 2).codes(257, 1, ALL).lengths(ALL, told);
            dueUnpacked(zeros + " zeros", bits.word("0").word("10").word("0").word("11"), 0, zeros + 1, 0);
        }
    }

    /** 16 and 18 go on from the letters to the distances, up to the very last one. */
    @Says("the lengths of all letters, and behind them of all distances, in one row")
    static void repeatedOverTheBorder() {
        List<Integer> told = new ArrayList<>(List.of(18 + 8600, 2, 18 + 12700, 18 + 700, 0, 0, 2, 2, 2, 16 + 100));
        Bits bits = new Bits().head(1, 2).codes(259, 4, ALL).lengths(ALL, told);
        bits.word("00").word("10").word("00").word("01");
        dueUnpacked("16 over the border", bits, 97, 97, 97, 97);
        told = List.of(18 + 8600, 1, 18 + 12700, 18 + 900, 1, 18 + 2900);
        bits = new Bits().head(1, 2).codes(286, 11, ALL).lengths(ALL, told).word("0").word("1");
        dueUnpacked("18 over the border", bits, 97);
    }

    /** Two of 1 bit, thirty of which some have 4 and some 5; none; and one of 1 bit, the first and the last. */
    @Says("that of distances must be FULL, or no distance has a code, or just one, of 1 bit")
    static void codesOfDistances() {
        int[] three = letters(258, 97, 1, 256, 2, 257, 2);
        dueUnpacked("two of 1 bit", oneByOne(three, new int[] {1, 1}).word("0").word("0").word("11").word("1")
            .word("10"), 97, 97, 97, 97, 97);
        int[] thirty = new int[30];
        Arrays.fill(thirty, 5);
        thirty[28] = 4;
        thirty[29] = 4;
        dueUnpacked("thirty", oneByOne(three, thirty).word("0").word("11").word("00100").word("10"), 97, 97, 97, 97);
        dueUnpacked("none of one", oneByOne(three, new int[1]).word("0").word("10"), 97);
        dueUnpacked("none of thirty", oneByOne(three, new int[30]).word("0").word("10"), 97);
        dueUnpacked("one of 1 bit", oneByOne(three, new int[] {1}).word("0").word("11").word("0").word("10"),
            97, 97, 97, 97);
        dueUnpacked("the second one of 1 bit", oneByOne(three, new int[] {0, 1}).word("0").word("0").word("11")
            .word("0").word("10"), 97, 97, 97, 97, 97);
    }

    @Says("OUT becomes what the TAPE, in a wrapper, unpacks to: how many bytes it has")
    static void unpackedOfAnyLength() {
        dueUnpacked("nothing", new Bits().head(1, 1).letter(256));
        RowPacker x = TestKit.loaded(new Bits().head(1, 1).run(7, 65536).letter(256).row());
        TestKit.due("65,536 bytes", x.unpack(RowPacker.BARE), 65536);
        TestKit.due("the last one", x.out(65535), 7);
        TestKit.load(x, new Bits().plain(1, 5).row());
        TestKit.due("one byte behind many", x.unpack(RowPacker.BARE), 1);
        TestKit.dueRow("OUT", TestKit.outOf(x), TestKit.row(5));
    }

    @Says("or there is a fault: NONE, and OUT is empty. IllegalArgumentException.")
    static void unpackWithAFault() {
        RowPacker x = TestKit.loaded(new Bits().plain(1, 1, 2, 3).row());
        TestKit.due("unpack", x.unpack(RowPacker.BARE), 3);
        for (int wrapper : new int[] {-1, 3, Integer.MIN_VALUE, Integer.MAX_VALUE}) {
            TestKit.dueThrowWithoutChange(x, "unpack(" + wrapper + ")", IllegalArgumentException.class,
                () -> x.unpack(wrapper));
        }
        // The fault is the last thing of all: what was unpacked before it is not in OUT.
        x.again(1, 1);
        TestKit.due("a byte behind", x.unpack(RowPacker.BARE), RowPacker.NONE);
        TestKit.due("fault", x.fault(), 11);
        TestKit.due("OUT is empty", x.size(), 0);
    }

    @Says("or unpack() read to their end; 0 before any.")
    static void blocksRead() {
        RowPacker x = new RowPacker();
        x.feed(0, 0, 0, 0, 0);
        x.sum(0);
        TestKit.due("before any", x.blocks(), 0);
        TestKit.load(x, new Bits().plain(0, 1).plain(0, 2).head(1, 1).letter(7).letter(286).row());
        x.unpack(RowPacker.BARE);
        TestKit.due("a fault in the third", x.blocks(), 2);
        dueBlock("the second", x, 1, 0, 48, 48, 1);
        TestKit.dueThrow("the third", IndexOutOfBoundsException.class, () -> x.block(2, 0));
        TestKit.load(x, new Bits().plain(0, 1).plain(1, 2).bytes(0).row());
        x.unpack(RowPacker.BARE);
        TestKit.due("a fault behind the second", x.blocks(), 2);
        Bits bits = new Bits();
        for (int i = 0; i < 26214; i++) {
            bits.head(i == 26213 ? 1 : 0, 1).letter(256);
        }
        TestKit.load(x, bits.row());
        TestKit.due("as many as a TAPE holds: unpack", x.unpack(RowPacker.BARE), 0);
        TestKit.due("as many as a TAPE holds", x.blocks(), 26214);
        TestKit.load(x, new Bits().head(1, 3).row());
        x.unpack(RowPacker.BARE);
        TestKit.due("none", x.blocks(), 0);
        TestKit.dueThrow("none", IndexOutOfBoundsException.class, () -> x.block(0, 0));
    }

    private static RowPacker ofBlocks(int many) {
        Bits bits = new Bits();
        for (int i = 0; i < many; i++) {
            bits.head(i == many - 1 ? 1 : 0, 1).letter(i).letter(256);
        }
        RowPacker x = TestKit.loaded(bits.row());
        TestKit.due(many + " blocks: unpack", x.unpack(RowPacker.BARE), many);
        TestKit.due(many + " blocks", x.blocks(), many);
        return x;
    }

    @Says({"Of block i, one of the first 64", "how many bytes it stands for (3). IndexOutOfBoundsException"})
    static void first64Blocks() {
        for (int many : new int[] {63, 64, 65, 70}) {
            RowPacker x = ofBlocks(many);
            int told = Math.min(many, 64);
            for (int i = 0; i < told; i++) {
                dueBlock(many + " blocks", x, i, 1, 18 * i, 18, 1);
            }
            for (int i : new int[] {told, told + 1, many, -1, Integer.MIN_VALUE, Integer.MAX_VALUE}) {
                TestKit.dueThrowWithoutChange(x, "block(" + i + ", 0) of " + many, IndexOutOfBoundsException.class,
                    () -> x.block(i, 0));
            }
        }
    }

    @Says("IllegalArgumentException: another what.")
    static void anotherWhat() {
        RowPacker x = ofBlocks(64);
        for (int what : new int[] {4, 5, -1, Integer.MIN_VALUE, Integer.MAX_VALUE}) {
            TestKit.dueThrowWithoutChange(x, "block(0, " + what + ")", IllegalArgumentException.class,
                () -> x.block(0, what));
            TestKit.dueThrowWithoutChange(x, "block(63, " + what + ")", IllegalArgumentException.class,
                () -> x.block(63, what));
        }
    }

    @Says("how many bits it has (2; of a PLAIN one with those that count for nothing before its numbers)")
    static void bitsOfBlocks() {
        // 10 bits; 3, 3 that count for nothing, 40; 10, behind which stand 6 more, and those count for no block.
        Bits bits = new Bits().head(0, 1).letter(256).plain(0, 5).head(1, 1).letter(256);
        RowPacker x = dueUnpacked("three blocks", bits, 5);
        dueBlock("three blocks", x, 0, 1, 0, 10, 0);
        dueBlock("three blocks", x, 1, 0, 10, 46, 1);
        dueBlock("three blocks", x, 2, 1, 56, 10, 0);
    }

    /** A stretch that has a fault was not unpacked whole; those before it, in the same block, were. */
    @Says("those that were unpacked whole, in the block with a fault, too; 0 before any.")
    static void stretchesUnpacked() {
        RowPacker x = new RowPacker();
        x.feed(0, 0, 0, 0, 0);
        TestKit.due("before any", x.stretches(), 0);
        Bits three = new Bits().head(0, 1).letter(5).letter(257).distance(0).letter(256);
        three.head(1, 1).letter(285).distance(0).letter(285).distance(1);
        Bits[] behind = {new Bits().letter(286), new Bits().letter(285).distance(31),
            new Bits().letter(257).distance(29).number(8191, 13), new Bits().letter(284), new Bits()};
        for (Bits one : behind) {
            TestKit.load(x, new Bits().add(three).add(one).row());
            TestKit.due("unpack with a fault", x.unpack(RowPacker.BARE), RowPacker.NONE);
            TestKit.due("stretches before fault " + x.fault(), x.stretches(), 3);
        }
        TestKit.load(x, new Bits().head(1, 1).run(7, 65534).letter(257).distance(0).letter(256).row());
        x.unpack(RowPacker.BARE);
        TestKit.due("no room", x.fault(), 10);
        TestKit.due("stretches before it", x.stretches(), 254);
        TestKit.load(x, new Bits().plain(1, 1).row());
        x.unpack(RowPacker.BARE);
        TestKit.due("none", x.stretches(), 0);
    }
}
