import java.util.ArrayList;
import java.util.Arrays;
import java.util.List;

/** Promises 7 to 9, 14 and 16: each fault, where it is, and which of two comes first. */
public final class FaultTest {
    private static final int[] LENGTHS = new int[19];

    static {
        LENGTHS[0] = 2;
        LENGTHS[1] = 3;
        LENGTHS[2] = 3;
        LENGTHS[16] = 3;
        LENGTHS[17] = 3;
        LENGTHS[18] = 2;
    }

    public static void main(String[] args) {
        earlyEnd();
        kindThree();
        secondNumber();
        tooManySymbols();
        codesThatAreNotFull();
        nothingBefore();
        tooManyLengths();
        symbolsThatNeverCome();
        tooFar();
        tooManyBytes();
        behindTheEnd();
        shortWrapper();
        longHead();
        longTail();
        severalMembers();
        stretchesOfABlockWithAFault();
        goodBehindAFault();
        TestKit.finish();
    }

    private static RowPacker dueFault(String what, byte[] tape, int wrapper, int fault, int place, int blocks) {
        RowPacker x = new RowPacker();
        TestKit.load(x, tape);
        TestKit.due(what + ": unpack", x.unpack(wrapper), RowPacker.NONE);
        TestKit.due(what + ": fault", x.fault(), fault);
        TestKit.due(what + ": place", x.place(), place);
        TestKit.due(what + ": blocks", x.blocks(), blocks);
        TestKit.due(what + ": size", x.size(), 0);
        TestKit.dueThrow(what + ": out(0)", IndexOutOfBoundsException.class, () -> x.out(0));
        TestKit.dueThrow(what + ": block", IndexOutOfBoundsException.class, () -> x.block(blocks, 0));
        return x;
    }

    private static void dueFault(String what, Bits bits, int fault, int place, int blocks) {
        dueFault(what, bits.row(), 0, fault, place, blocks);
    }

    /** A block of KIND 2 up to the end of its lengths; the letters told are 97 and 256 and what comes behind. */
    private static Bits made(int letters, int distances, Integer... told) {
        List<Integer> all = new ArrayList<>(List.of(18 + 100 * (97 - 11)));
        all.addAll(Arrays.asList(told));
        return new Bits().head(1, 2).codes(letters, distances, LENGTHS).lengths(LENGTHS, all);
    }

    private static final Integer REST_0 = 18 + 100 * (138 - 11), REST_1 = 18 + 100 * (20 - 11);

    private static void cutEverywhere(String what, byte[] whole, int wrapper) {
        for (int many = 0; many < whole.length; many++) {
            RowPacker x = new RowPacker();
            TestKit.load(x, Arrays.copyOf(whole, many));
            TestKit.due(what + " cut: unpack", x.unpack(wrapper), RowPacker.NONE);
            TestKit.due(what + " cut: fault", x.fault(), 1);
            TestKit.due(what + " cut: place", x.place(), 8 * many);
        }
    }

    /** 1: wherever a good row is cut, at the begin of each kind of thing that is read. */
    private static void earlyEnd() {
        dueFault("nothing", new Bits(), 1, 0, 0);
        dueFault("nothing, SHORT", new byte[0], 1, 1, 0, 0);
        dueFault("nothing, LONG", new byte[0], 2, 1, 0, 0);
        cutEverywhere("PLAIN", new Bits().plain(1, 1, 2, 3).row(), 0);
        Bits fixed = new Bits().head(1, 1).letter(200).letter(284).number(3, 5).distance(0).letter(9);
        cutEverywhere("KIND 1", fixed.letter(257).distance(17).number(5, 7).row(), 0);
        Bits bits = made(258, 1, 1, REST_0, REST_1, 2, 2, 1).word("0").word("11").word("0").word("10");
        cutEverywhere("KIND 2", bits.row(), 0);
        cutEverywhere("SHORT", TestKit.row(120, 156, 3, 0, 0, 0, 0, 1), 1);
        byte[] head = TestKit.row(31, 139, 8, 28, 0, 0, 0, 0, 0, 255, 2, 0, 7, 7, 97, 0, 98, 0, 3, 0);
        cutEverywhere("LONG", TestKit.join(head, new byte[8]), 2);
        dueFault("second block", new Bits().plain(0, 5), 1, 48, 1);
        dueFault("fewer bits than the KIND", new Bits().head(0, 1).letter(256).head(0, 1).letter(256).head(0, 1)
            .letter(200).letter(5).letter(256), 1, 48, 3);
        Bits none = made(258, 1, 1, REST_0, REST_1, 2, 2, 0).word("0");
        while (none.length() % 8 != 6) {
            none.word("0");
        }
        dueFault("no bit for a distance without codes", none.word("11"), 1, none.length(), 0);
    }

    /** 2. */
    private static void kindThree() {
        dueFault("KIND 3", new Bits().head(1, 3), 2, 1, 0);
        dueFault("KIND 3, not the last", new Bits().head(0, 3), 2, 1, 0);
        dueFault("KIND 3 behind a block", new Bits().head(0, 1).letter(256).head(1, 3), 2, 11, 1);
        dueFault("KIND 3 wrapped", TestKit.row(120, 156, 7), 1, 2, 17, 0);
    }

    /** 3. */
    private static void secondNumber() {
        dueFault("another number", new Bits().head(1, 0).toByte().number(1, 16).number(65535, 16), 3, 24, 0);
        dueFault("the same number", new Bits().head(1, 0).toByte().number(0, 16).number(0, 16), 3, 24, 0);
        dueFault("another number, and no bytes", new Bits().head(1, 0).toByte().number(9, 16).number(9, 16), 3, 24, 0);
        Bits behind = new Bits().head(0, 1).letter(256).head(1, 0).toByte().number(0, 16).number(65534, 16);
        dueFault("behind a block", behind, 3, 32, 1);
    }

    /** 4: each number is looked at before the next one is read. */
    private static void tooManySymbols() {
        dueFault("287 letters", new Bits().head(1, 2).number(30, 5), 4, 3, 0);
        dueFault("288 letters, 32 distances", new Bits().head(1, 2).number(31, 5).number(31, 5), 4, 3, 0);
        dueFault("31 distances", new Bits().head(1, 2).number(29, 5).number(30, 5), 4, 8, 0);
        dueFault("32 distances", new Bits().head(1, 2).number(0, 5).number(31, 5).number(15, 4), 4, 8, 0);
        Bits behind = new Bits().head(0, 1).letter(256).head(1, 2).number(30, 5);
        dueFault("behind a block", behind, 4, 13, 1);
    }

    /** 5. */
    private static void codesThatAreNotFull() {
        Bits empty = new Bits().head(1, 2).number(0, 5).number(0, 5).number(0, 4).number(0, 12);
        dueFault("no lengths", empty, 5, 29, 0);
        Bits single = new Bits().head(1, 2).number(0, 5).number(0, 5).number(0, 4).number(1, 12);
        dueFault("one length of 1 bit", single, 5, 29, 0);
        Bits three = new Bits().head(1, 2).number(0, 5).number(0, 5).number(1, 4);
        three.number(1, 3).number(1, 3).number(1, 3).number(0, 6);
        dueFault("three lengths of 1 bit", three, 5, 32, 0);
        Bits rest = new Bits().head(1, 2).number(0, 5).number(0, 5).number(0, 4);
        rest.number(1, 3).number(2, 3).number(3, 3).number(0, 3);
        dueFault("an eighth is left", rest, 5, 29, 0);

        Bits letters = made(257, 1, 1, REST_0, REST_1, 2, 0);
        dueFault("letters of 1 and 2 bits", letters, 5, letters.length(), 0);
        Bits many = made(258, 1, 1, REST_0, REST_1, 1, 1, 0);
        dueFault("three letters of 1 bit", many, 5, many.length(), 0);
        Bits alone = made(257, 1, 0, REST_0, REST_1, 1, 0);
        dueFault("256 alone", alone, 5, alone.length(), 0);
        Bits without = made(257, 1, 1, 1, REST_0, 18 + 100 * (19 - 11), 0, 0);
        dueFault("256 without a code", without, 5, without.length(), 0);
        Bits far = made(257, 1, 1, REST_0, REST_1, 1, 2);
        dueFault("one distance of 2 bits", far, 5, far.length(), 0);
        Bits some = made(257, 2, 1, REST_0, REST_1, 1, 1, 2);
        dueFault("distances of 1 and 2 bits", some, 5, some.length(), 0);
        Bits full = made(257, 3, 1, REST_0, REST_1, 1, 1, 1, 1);
        dueFault("three distances of 1 bit", full, 5, full.length(), 0);
    }

    private static Bits begun() {
        return new Bits().head(1, 2).codes(257, 1, LENGTHS);
    }

    /** 6: before its number is read. */
    private static void nothingBefore() {
        String word = Bits.wordsOf(LENGTHS)[16];
        int place = begun().length();
        dueFault("16 at first", begun().word(word).number(0, 2), 6, place, 0);
        Bits atTheEnd = new Bits().head(0, 1).letter(144).letter(256).add(begun()).word(word);
        dueFault("16 at first, behind a block", atTheEnd, 6, place + 19, 1);
        Bits cut = new Bits();
        while ((cut.length() + place + word.length()) % 8 != 0) {
            cut.head(0, 1).letter(144).letter(256);
        }
        int before = cut.length();
        dueFault("16 at first, its number missing", cut.add(begun()).word(word), 6, place + before, before / 19);
        Bits zeros = begun().lengths(LENGTHS, List.of(0, 16, 18 + 100 * (138 - 11), 18 + 100 * (115 - 11), 0));
        dueFault("16 behind a 0 is none", zeros, 5, zeros.length(), 0);
    }

    /** 7: behind 6, its number read. */
    private static void tooManyLengths() {
        for (int symbol = 16; symbol <= 18; symbol++) {
            int most = symbol == 16 ? 3 : symbol == 17 ? 7 : 127;
            int least = symbol == 18 ? 11 : 3;
            Bits bits = made(257, 1, 1, 18 + 100 * (138 - 11));
            // 236 of 258 lengths are told: up to least - 1 are left over.
            int left = 258 - 236;
            while (left >= least) {
                bits.lengths(LENGTHS, List.of(0));
                left--;
            }
            int place = bits.length();
            dueFault("one too many of " + symbol, bits.lengths(LENGTHS, List.of(symbol)), 7, place, 0);
            Bits others = made(257, 1, 1, 18 + 100 * (138 - 11), 18 + 100 * (20 - 11));
            place = others.length();
            dueFault("far too many of " + symbol, others.lengths(LENGTHS, List.of(symbol + 100 * most)), 7, place, 0);
        }
        String word = Bits.wordsOf(LENGTHS)[18];
        Bits cut = made(257, 1, 1, 18 + 100 * (138 - 11), 18 + 100 * (20 - 11)).word(word).number(0, 1);
        byte[] row = cut.row();
        TestKit.due("fewer than 7 bits are left", 8 * row.length - cut.length() < 6 ? 1 : 0, 1);
        dueFault("its number missing", cut, 1, 8 * row.length, 0);
        Bits last = made(257, 1, 1, REST_0, REST_1, 1, 0).word("1");
        RowPacker x = new RowPacker();
        TestKit.load(x, last.row());
        TestKit.due("as many as there are", x.unpack(0), 0);
    }

    /** 8. */
    private static void symbolsThatNeverCome() {
        dueFault("letter 286", new Bits().head(1, 1).letter(286), 8, 3, 0);
        dueFault("letter 287", new Bits().head(1, 1).letter(5).letter(287), 8, 11, 0);
        dueFault("distance 30", new Bits().head(1, 1).letter(5).letter(257).distance(30), 8, 18, 0);
        dueFault("distance 31", new Bits().head(1, 1).letter(5).letter(284).number(9, 5).distance(31), 8, 24, 0);
        Bits none = made(258, 1, 1, REST_0, REST_1, 2, 2, 0).word("0").word("11");
        int place = none.length();
        dueFault("no code of distances, bit 0", none.word("0"), 8, place, 0);
        none = made(258, 1, 1, REST_0, REST_1, 2, 2, 0).word("0").word("11").word("1");
        dueFault("no code of distances, bit 1", none, 8, place, 0);
        Bits one = made(258, 1, 1, REST_0, REST_1, 2, 2, 1).word("0").word("11");
        place = one.length();
        dueFault("the bit that is in no code", one.word("1"), 8, place, 0);
        // The last bit of the TAPE tells it: it is no early end.
        one = made(258, 1, 1, REST_0, REST_1, 2, 2, 1).word("0");
        while (one.length() % 8 != 5) {
            one.word("0");
        }
        dueFault("that bit being the last", one.word("11").word("1"), 8, one.length() - 1, 0);
    }

    /** 9. */
    private static void tooFar() {
        dueFault("before the first byte", new Bits().head(1, 1).letter(257).distance(0), 9, 10, 0);
        dueFault("two of one byte", new Bits().head(1, 1).letter(5).letter(257).distance(1), 9, 18, 0);
        Bits wide = new Bits().head(1, 1).letter(5).letter(265).number(1, 1).distance(4).number(1, 1);
        dueFault("six of one byte", wide, 9, 19, 0);
        Bits blocks = new Bits().plain(0, 1, 2, 3).head(1, 1).letter(257).distance(3);
        dueFault("four of three bytes", blocks, 9, 64 + 10, 1);
        Bits missing = new Bits().head(1, 1).letter(257).distance(29).number(0, 6);
        dueFault("too far, its number missing", missing, 1, 24, 0);
    }

    /** So many bytes 7, of stretches of 258 and of bytes, with no end of the block. */
    private static Bits sevens(int last, int many) {
        Bits bits = new Bits().head(last, 1).letter(7);
        int left = many - 1;
        while (left >= 258) {
            bits.letter(285).distance(0);
            left -= 258;
        }
        while (left > 0) {
            bits.letter(7);
            left--;
        }
        return bits;
    }

    /** 10. */
    private static void tooManyBytes() {
        Bits bits = sevens(1, 65536);
        int place = bits.length();
        dueFault("byte 65,537", bits.letter(7), 10, place, 0);
        bits = sevens(1, 65534);
        place = bits.length();
        dueFault("a stretch over 65,536", bits.letter(257).distance(0), 10, place, 0);
        bits = sevens(1, 65536);
        place = bits.length() + 7;
        dueFault("8 is before 10", bits.letter(257).distance(30), 8, place, 0);
        bits = sevens(1, 65534);
        place = bits.length();
        bits.letter(257).distance(29).number(8191, 13);
        dueFault("32,768 is not too far", bits, 10, place, 0);
        bits = sevens(0, 65530).letter(256).head(1, 0).toByte();
        place = bits.length();
        dueFault("a PLAIN one, and no bytes", bits.number(7, 16).number(65528, 16), 10, place, 1);
        bits = sevens(0, 65530).letter(256).head(1, 0).toByte();
        place = bits.length();
        dueFault("3 is before 10", bits.number(7, 16).number(7, 16), 3, place + 16, 1);
        bits = sevens(0, 65530).letter(256).head(1, 0).toByte();
        bits.number(6, 16).number(65529, 16);
        dueFault("a PLAIN one that has room", bits, 1, bits.length(), 1);
        bits = sevens(0, 65530).letter(256).plain(1, 1, 2, 3, 4, 5, 6);
        RowPacker x = new RowPacker();
        TestKit.load(x, bits.row());
        TestKit.due("a PLAIN one up to 65,536", x.unpack(0), 65536);
        bits = sevens(0, 65536).letter(256).plain(1);
        TestKit.load(x, bits.row());
        TestKit.due("a PLAIN one without bytes behind 65,536", x.unpack(0), 65536);
    }

    /** 11. */
    private static void behindTheEnd() {
        dueFault("a byte behind", TestKit.row(3, 0, 0), 0, 11, 16, 1);
        dueFault("two bytes behind", TestKit.row(3, 0, 7, 7), 0, 11, 16, 1);
        dueFault("a byte behind a PLAIN one", new Bits().plain(1, 1).bytes(3), 11, 48, 1);
        dueFault("a byte behind a row that ends a byte", new Bits().head(1, 1).letter(5).letter(6).letter(144)
            .letter(145).letter(256).toByte().bytes(0), 11, 48, 1);
        dueFault("a byte behind a SHORT one", TestKit.row(120, 156, 3, 0, 0, 0, 0, 1, 0), 1, 11, 64, 1);
    }

    /** 12 and 13 of SHORT; the first byte is looked at before the second is read, and the sum before 11. */
    private static void shortWrapper() {
        dueFault("first byte, lowest bits", TestKit.row(121), 1, 12, 0, 0);
        dueFault("first byte, highest bits", TestKit.row(136, 28), 1, 12, 0, 0);
        dueFault("second byte, no multiple", TestKit.row(120, 157), 1, 12, 8, 0);
        dueFault("second byte, bit 5", TestKit.row(120, 187), 1, 12, 8, 0);
        dueFault("second byte, bit 5 alone wrong", TestKit.row(120, 32), 1, 12, 8, 0);
        for (int i = 4; i < 8; i++) {
            byte[] tape = TestKit.row(120, 156, 3, 0, 0, 0, 0, 1, 9);
            tape[i] ^= 64;
            dueFault("SUM A, byte " + i, tape, 1, 13, 32, 1);
        }
        dueFault("SUM A, the lowest first", TestKit.row(120, 156, 3, 0, 1, 0, 0, 0), 1, 13, 32, 1);
    }

    /** 12 and 13 of LONG's head. */
    private static void longHead() {
        dueFault("byte 0", TestKit.row(30), 2, 12, 0, 0);
        dueFault("byte 1", TestKit.row(31, 138), 2, 12, 8, 0);
        dueFault("byte 2", TestKit.row(31, 139, 7), 2, 12, 16, 0);
        for (int bit = 5; bit < 8; bit++) {
            dueFault("MARKS, bit " + bit, TestKit.row(31, 139, 8, 1 << bit), 2, 12, 24, 0);
        }
        dueFault("bytes of MARKS bit 2 missing", TestKit.row(31, 139, 8, 4, 0, 0, 0, 0, 0, 0, 1, 1, 0), 2, 1, 104, 0);
        dueFault("no 0 behind a text", TestKit.row(31, 139, 8, 8, 0, 0, 0, 0, 0, 0, 1, 1), 2, 1, 96, 0);
        dueFault("no 0 behind the second text", TestKit.row(31, 139, 8, 24, 0, 0, 0, 0, 0, 0, 1, 0, 1), 2, 1, 104, 0);
        dueFault("sum of the head", TestKit.row(31, 139, 8, 2, 0, 0, 0, 0, 0, 0, 1, 2), 2, 13, 80, 0);
        byte[] marked = TestKit.row(31, 139, 8, 10, 0, 0, 0, 0, 0, 0, 65, 0);
        java.util.zip.CRC32 sum = new java.util.zip.CRC32();
        sum.update(marked);
        int due = (int) sum.getValue() & 65535;
        byte[] good = TestKit.join(marked, new Bits().number(due, 16).row());
        dueFault("the head's sum is good", good, 2, 1, 112, 0);
        byte[] turned = TestKit.join(marked, TestKit.row(due >> 8, due & 255));
        dueFault("the head's sum, the highest first", turned, 2, 13, 96, 0);
    }

    /** 13 and 14 of LONG: the sum is looked at before the count is read. */
    private static void longTail() {
        byte[] head = TestKit.row(31, 139, 8, 0, 0, 0, 0, 0, 0, 255, 3, 0);
        for (int i = 0; i < 4; i++) {
            byte[] tail = new byte[8];
            tail[i] = (byte) 128;
            dueFault("SUM B, byte " + i, TestKit.join(head, tail), 2, 13, 96, 1);
            dueFault("SUM B alone, byte " + i, TestKit.join(head, Arrays.copyOf(tail, 4)), 2, 13, 96, 1);
            tail = new byte[8];
            tail[4 + i] = 1;
            dueFault("count, byte " + i, TestKit.join(head, tail), 2, 14, 128, 1);
            tail[0] = 1;
            dueFault("13 is before 14", TestKit.join(head, tail), 2, 13, 96, 1);
        }
    }

    private static byte[] memberOf(Bits packed, byte[] bytes) {
        java.util.zip.CRC32 sum = new java.util.zip.CRC32();
        sum.update(bytes);
        byte[] tail = new Bits().number((int) sum.getValue(), 32).number(bytes.length, 32).row();
        return TestKit.join(TestKit.row(31, 139, 8, 0, 0, 0, 0, 0, 0, 255), packed.row(), tail);
    }

    private static void severalMembers() {
        byte[] one = memberOf(new Bits().plain(1, 1, 2, 3), TestKit.row(1, 2, 3));
        int bits = 8 * one.length;
        dueFault("0 behind a member", TestKit.join(one, TestKit.row(0)), 2, 12, bits, 1);
        dueFault("a head cut short behind it", TestKit.join(one, TestKit.row(31, 139)), 2, 1, bits + 16, 1);
        dueFault("a wrong head behind it", TestKit.join(one, TestKit.row(31, 139, 9)), 2, 12, bits + 16, 1);
        byte[] back = memberOf(new Bits().head(1, 1).letter(257).distance(2).letter(256), TestKit.row(1, 2, 3));
        dueFault("a distance into the member before", TestKit.join(one, back), 2, 9, bits + 80 + 10, 1);
        byte[] all = TestKit.row(1, 2, 3, 1, 2, 3);
        byte[] wrong = memberOf(new Bits().plain(1, 1, 2, 3), all);
        dueFault("the sum of both", TestKit.join(one, wrong), 2, 13, bits + 80 + 64, 2);
        byte[] count = one.clone();
        count[one.length - 4] = 6;
        dueFault("the count of both", TestKit.join(one, count), 2, 14, bits + 80 + 64 + 32, 2);
        byte[] sevens = new byte[65536];
        Arrays.fill(sevens, (byte) 7);
        byte[] full = memberOf(sevens(1, 65536).letter(256), sevens);
        byte[] more = memberOf(new Bits().head(1, 1).letter(5).letter(256), TestKit.row(5));
        dueFault("65,537 of two members", TestKit.join(full, more), 2, 10, 8 * full.length + 83, 1);
    }

    /** Promise 16: those before the fault count, the one with the fault does not. */
    private static void stretchesOfABlockWithAFault() {
        Bits bits = new Bits().head(0, 1).letter(5).letter(257).distance(0).letter(256);
        bits.head(1, 1).letter(285).distance(0).letter(285).distance(1).letter(285);
        int place = bits.length();
        RowPacker x = dueFault("a fault behind three", bits.distance(31).row(), 0, 8, place, 1);
        TestKit.due("stretches", x.stretches(), 3);
        for (int what = 0; what < 4; what++) {
            TestKit.due("block(0, " + what + ")", x.block(0, what), new int[] {1, 0, 30, 4}[what]);
        }
        bits = sevens(1, 65534);
        place = bits.length();
        x = dueFault("one that has no room", bits.letter(257).distance(0).row(), 0, 10, place, 0);
        TestKit.due("stretches before it", x.stretches(), 254);
    }

    private static void goodBehindAFault() {
        RowPacker x = new RowPacker();
        TestKit.load(x, new Bits().plain(0, 5).head(1, 3).row());
        TestKit.due("fault first", x.unpack(0), RowPacker.NONE);
        TestKit.due("a block before it", x.blocks(), 1);
        TestKit.load(x, TestKit.row(3, 0));
        TestKit.due("fault is of the latest call", x.fault(), 2);
        TestKit.due("then good", x.unpack(0), 0);
        TestKit.due("no fault", x.fault(), 0);
        TestKit.due("no place", x.place(), RowPacker.NONE);
        TestKit.load(x, new Bits().head(1, 1).letter(1).letter(257).distance(0).letter(256).row());
        x.unpack(0);
        TestKit.due("a stretch", x.stretches(), 1);
        TestKit.load(x, TestKit.row(7));
        x.unpack(0);
        TestKit.due("no stretch of an earlier call", x.stretches(), 0);
        TestKit.due("no block of an earlier call", x.blocks(), 0);
    }
}
