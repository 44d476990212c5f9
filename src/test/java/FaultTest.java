import java.util.ArrayList;
import java.util.Arrays;
import java.util.Collections;
import java.util.List;

/** Promises 7 to 9: faults 1 to 10, where each is, and which of two comes first (WrapperTest has 11 to 14). */
public final class FaultTest {
    private static final int[] LENGTHS = new int[19];

    static {
        LENGTHS[0] = 2;
        LENGTHS[1] = 3;
        LENGTHS[2] = 3;
        LENGTHS[16] = 3;
        LENGTHS[17] = 3;
        LENGTHS[18] = 2;
    }

    /** The 158 letters between 97 and 256, told by two symbols 18. */
    private static final Integer REST_0 = 18 + 100 * (138 - 11), REST_1 = 18 + 100 * (20 - 11);

    public static void main(String[] args) throws Exception {
        Edges.run(FaultTest.class);
        TestKit.finish();
    }

    private static void dueFault(String what, Bits bits, int fault, int place, int blocks) {
        TestKit.dueFault(what, bits.row(), RowPacker.BARE, fault, place, blocks);
    }

    /** The same fault behind a block of 19 bits, too: then its place is 19 more. */
    private static void dueFaultAnywhere(String what, Bits bits, int fault, int place) {
        dueFault(what, bits, fault, place, 0);
        Bits behind = new Bits().head(0, 1).letter(144).letter(256).add(bits);
        dueFault(what + ", behind a block", behind, fault, place + 19, 1);
    }

    /** A block of KIND 2 up to the end of its lengths; letters up to 96 have none, what is told goes on from 97. */
    private static Bits made(int letters, int distances, Integer... told) {
        List<Integer> all = new ArrayList<>(List.of(18 + 100 * (97 - 11)));
        all.addAll(Arrays.asList(told));
        return new Bits().head(1, 2).codes(letters, distances, LENGTHS).lengths(LENGTHS, all);
    }

    /** A row of whole bytes: blocks of 19 bits stand before what does not end a byte. */
    private static Bits endingAByte(Bits bits) {
        Bits before = new Bits();
        while ((before.length() + bits.length()) % 8 != 0) {
            before.head(0, 1).letter(144).letter(256);
        }
        return before.add(bits);
    }

    /** A fault that the last bit of the TAPE tells: nothing behind it is read before it is looked at. */
    private static void dueAtTheEnd(String what, Bits bits, int fault, int place) {
        Bits whole = endingAByte(bits);
        int before = whole.length() - bits.length();
        dueFault(what + ", at the end of the TAPE", whole, fault, before + place, before / 19);
    }

    /** A TAPE that ends with these bits: its last byte is full, and something is missing. */
    private static void dueEarlyEnd(String what, Bits bits) {
        Bits whole = endingAByte(bits);
        dueFault(what, whole, 1, whole.length(), (whole.length() - bits.length()) / 19);
    }

    private static void cutEverywhere(String what, byte[] whole, int wrapper) {
        for (int many = 0; many < whole.length; many++) {
            RowPacker x = TestKit.loaded(Arrays.copyOf(whole, many));
            TestKit.due(what + " cut: unpack", x.unpack(wrapper), RowPacker.NONE);
            TestKit.due(what + " cut: fault", x.fault(), 1);
            TestKit.due(what + " cut: place", x.place(), 8 * many);
        }
    }

    @Says("1 the TAPE ends too early: at its end.")
    static void earlyEnd() {
        for (int wrapper = 0; wrapper < 3; wrapper++) {
            TestKit.dueFault("nothing", new byte[0], wrapper, 1, 0, 0);
        }
        cutEverywhere("PLAIN", new Bits().plain(1, 1, 2, 3).row(), 0);
        Bits fixed = new Bits().head(1, 1).letter(200).letter(284).number(3, 5).distance(0).letter(9);
        cutEverywhere("KIND 1", fixed.letter(257).distance(17).number(5, 7).row(), 0);
        Bits bits = made(258, 1, 1, REST_0, REST_1, 2, 2, 1).word("0").word("11").word("0").word("10");
        cutEverywhere("KIND 2", bits.row(), 0);
        cutEverywhere("SHORT", TestKit.row(120, 156, 3, 0, 0, 0, 0, 1), 1);
        byte[] head = TestKit.row(31, 139, 8, 28, 0, 0, 0, 0, 0, 255, 2, 0, 7, 7, 97, 0, 98, 0, 3, 0);
        cutEverywhere("LONG", TestKit.join(head, new byte[8]), 2);
    }

    /** The last bit but one of each thing, and no bit of it. */
    @Says("1 the TAPE ends too early")
    static void earlyEndInEachThing() {
        dueFault("no bit of a block", new Bits().plain(0, 5), 1, 48, 1);
        dueEarlyEnd("no bit of a KIND", new Bits().number(1, 1));
        dueEarlyEnd("one bit of a KIND", new Bits().number(1, 1).number(1, 1));
        dueEarlyEnd("no number of a PLAIN block", new Bits().head(1, 0).toByte());
        dueEarlyEnd("half a number", new Bits().head(1, 0).toByte().bytes(1));
        dueEarlyEnd("no second number", new Bits().head(1, 0).toByte().bytes(1, 0));
        dueEarlyEnd("half the second number", new Bits().head(1, 0).toByte().bytes(1, 0, 0));
        dueEarlyEnd("no byte", new Bits().head(1, 0).toByte().number(1, 16).number(65534, 16));
        Bits made = new Bits().head(1, 2);
        dueEarlyEnd("no h", made);
        dueEarlyEnd("h but a bit", new Bits().add(made).number(0, 4));
        made.number(0, 5);
        dueEarlyEnd("no d", made);
        dueEarlyEnd("d but a bit", new Bits().add(made).number(0, 4));
        made.number(0, 5);
        dueEarlyEnd("no c", made);
        dueEarlyEnd("c but a bit", new Bits().add(made).number(0, 3));
        dueEarlyEnd("no number of LENGTHS", new Bits().add(made).number(0, 4));
        dueEarlyEnd("the last number of LENGTHS but a bit", new Bits().add(made).number(0, 4).number(2, 3)
            .number(2, 3).number(2, 3).number(2, 2));
        Bits codes = new Bits().head(1, 2).codes(257, 1, LENGTHS);
        dueEarlyEnd("no length", codes);
        dueEarlyEnd("a length's symbol but a bit", new Bits().add(codes).word("10"));
        for (int symbol = 16; symbol <= 18; symbol++) {
            Bits cut = new Bits().add(codes).lengths(LENGTHS, List.of(1)).word(Bits.wordsOf(LENGTHS)[symbol]);
            dueEarlyEnd("no number behind " + symbol, cut);
            cut.number(0, symbol == 16 ? 1 : symbol == 17 ? 2 : 6);
            dueEarlyEnd("a number behind " + symbol + " but a bit", cut);
        }
        Bits symbols = new Bits().head(1, 1).letter(7);
        dueEarlyEnd("no letter", symbols);
        dueEarlyEnd("a letter but a bit", new Bits().add(symbols).word("11001000"));
        dueEarlyEnd("256 but a bit", new Bits().add(symbols).word("000000"));
        dueEarlyEnd("no number of a length", new Bits().add(symbols).letter(284));
        dueEarlyEnd("a number of a length but a bit", new Bits().add(symbols).letter(284).number(0, 4));
        dueEarlyEnd("no distance", new Bits().add(symbols).letter(257));
        dueEarlyEnd("a distance but a bit", new Bits().add(symbols).letter(257).word("0000"));
        dueEarlyEnd("no number of a distance", new Bits().add(symbols).letter(257).distance(29));
        dueEarlyEnd("a number of a distance but a bit", new Bits().add(symbols).letter(257).distance(29).number(0, 12));
        dueEarlyEnd("no end of a block", new Bits().add(symbols).letter(257).distance(0));
    }

    @Says("2 KIND 3: at the first bit of the KIND.")
    static void kindThree() {
        dueFaultAnywhere("KIND 3", new Bits().head(1, 3), 2, 1);
        dueFaultAnywhere("KIND 3, not the last", new Bits().head(0, 3), 2, 1);
        dueAtTheEnd("KIND 3", new Bits().head(0, 3), 2, 1);
        TestKit.dueFault("KIND 3, SHORT", TestKit.row(120, 156, 7), RowPacker.SHORT, 2, 17, 0);
        TestKit.dueFault("KIND 3, LONG", TestKit.row(31, 139, 8, 0, 0, 0, 0, 0, 0, 0, 6), RowPacker.LONG, 2, 81, 0);
    }

    /** One bit being another one, each in turns; and the bytes may be missing. */
    @Says("3 the second number of a PLAIN block is another one: at its first bit.")
    static void secondNumber() {
        for (int n : new int[] {0, 1, 255, 256, 65535}) {
            for (int bit = 0; bit < 16; bit++) {
                Bits bits = new Bits().head(1, 0).toByte().number(n, 16).number(65535 - n ^ 1 << bit, 16);
                dueFault("n is " + n + ", bit " + bit, bits, 3, 24, 0);
            }
            dueFault("n twice", new Bits().head(1, 0).toByte().number(n, 16).number(n, 16), 3, 24, 0);
        }
        Bits behind = new Bits().head(0, 1).letter(256).head(1, 0).toByte().number(0, 16).number(65534, 16);
        dueFault("behind a block", behind, 3, 32, 1);
    }

    /** Each number is looked at before the next one is read. */
    @Says("4 there would be more than 286 letters, or more than 30 distances: at the first bit of h, or of d.")
    static void tooManySymbols() {
        for (int h = 30; h <= 31; h++) {
            dueFaultAnywhere("h is " + h, new Bits().head(1, 2).number(h, 5).number(0, 9), 4, 3);
            dueFaultAnywhere("h is " + h + ", d 31", new Bits().head(1, 2).number(h, 5).number(31, 5), 4, 3);
            dueAtTheEnd("h is " + h, new Bits().head(1, 2).number(h, 5), 4, 3);
            dueFaultAnywhere("d is " + h, new Bits().head(1, 2).number(0, 5).number(h, 5).number(15, 4), 4, 8);
            dueAtTheEnd("d is " + h, new Bits().head(1, 2).number(29, 5).number(h, 5), 4, 8);
        }
        Bits most = new Bits().head(1, 2).number(29, 5).number(29, 5).number(0, 4).number(0, 12);
        dueFault("286 letters, 30 distances", most, 5, 29, 0);
    }

    private static Bits ofLengths(int... lengths) {
        Bits bits = new Bits().head(1, 2).number(0, 5).number(0, 5).number(lengths.length - 4, 4);
        for (int length : lengths) {
            bits.number(length, 3);
        }
        return bits;
    }

    /** FULL is neither less nor more than 1, and looked at before a symbol of the code is read. */
    @Says("The codes of LENGTHS and of letters must be FULL")
    static void codeOfLengths() {
        dueFaultAnywhere("no length", ofLengths(0, 0, 0, 0), 5, 29);
        dueFaultAnywhere("one of 1 bit", ofLengths(1, 0, 0, 0), 5, 29);
        dueFaultAnywhere("three of 1 bit", ofLengths(1, 1, 1, 0), 5, 29);
        dueFaultAnywhere("an eighth is left", ofLengths(1, 2, 3, 0), 5, 29);
        dueFaultAnywhere("an eighth too much", ofLengths(1, 2, 3, 2), 5, 29);
        dueFaultAnywhere("all 19 of 7 bits", ofLengths(7, 7, 7, 7, 7, 7, 7, 7, 7, 7, 7, 7, 7, 7, 7, 7, 7, 7, 7), 5, 74);
        dueFaultAnywhere("all 19 of 1 bit", ofLengths(1, 1, 1, 1, 1, 1, 1, 1, 1, 1, 1, 1, 1, 1, 1, 1, 1, 1, 1), 5, 74);
        dueFaultAnywhere("a 128th is left", ofLengths(1, 2, 3, 4, 5, 6, 7, 0), 5, 41);
        dueFaultAnywhere("a 128th too much", ofLengths(1, 2, 3, 4, 5, 6, 7, 7, 7), 5, 44);
        dueAtTheEnd("a 128th is left", ofLengths(1, 2, 3, 4, 5, 6, 7), 5, 38);
    }

    @Says("A code is FULL if the sum of 2^-length over its symbols is 1.")
    static void codeOfLetters() {
        dueMade("letters of 1 and 2 bits", made(257, 1, 1, REST_0, REST_1, 2, 0));
        dueMade("three letters of 1 bit", made(258, 1, 1, REST_0, REST_1, 1, 1, 0));
        dueMade("256 alone, of 1 bit", made(257, 1, 0, REST_0, REST_1, 1, 0));
        dueMade("letters of 1, 1 and 2 bits", made(258, 1, 1, REST_0, REST_1, 1, 2, 0));
        int[] lengths = new int[257];
        for (int letter = 0; letter < 14; letter++) {
            lengths[letter] = letter + 1;
        }
        lengths[256] = 15;
        dueMade("a 32,768th is left", ofLetters(lengths));
        lengths[14] = 15;
        lengths[15] = 15;
        dueMade("a 32,768th too much", ofLetters(lengths));
    }

    /** A block whose 257 letters have these lengths and its distance none. */
    private static Bits ofLetters(int[] lengths) {
        int[] each = new int[19];
        Arrays.fill(each, 0, 16, 4);
        List<Integer> told = new ArrayList<>();
        Arrays.stream(lengths).forEach(told::add);
        told.add(0);
        return new Bits().head(1, 2).codes(257, 1, each).lengths(each, told);
    }

    /** Fault 5 at the bit behind all lengths, also if the TAPE ends there. */
    private static void dueMade(String what, Bits bits) {
        dueFaultAnywhere(what, new Bits().add(bits).word("1"), 5, bits.length());
        dueAtTheEnd(what, bits, 5, bits.length());
    }

    @Says("256 must have a code")
    static void endWithoutACode() {
        dueMade("256 without a code", made(257, 1, 1, 1, REST_0, 18 + 100 * (20 - 11), 0));
        dueMade("257 instead of 256", made(258, 1, 1, REST_0, REST_1, 0, 1, 0));
    }

    @Says("that of distances must be FULL, or no distance has a code, or just one, of 1 bit.")
    static void codeOfDistances() {
        dueMade("one distance of 2 bits", made(257, 1, 1, REST_0, REST_1, 1, 2));
        dueMade("two distances of 2 bits", made(257, 2, 1, REST_0, REST_1, 1, 2, 2));
        dueMade("distances of 1 and 2 bits", made(257, 2, 1, REST_0, REST_1, 1, 1, 2));
        dueMade("three distances of 1 bit", made(257, 3, 1, REST_0, REST_1, 1, 1, 1, 1));
        dueMade("distances of 1, 1 and 2 bits", made(257, 3, 1, REST_0, REST_1, 1, 1, 1, 2));
    }

    /** Letters, 256 and distances are all looked at behind all lengths, so that all three faults are one. */
    @Says("5 a code is not as it must be: at the bit behind its lengths (letters' code, 256, distances in this order, "
        + "behind all lengths).")
    static void behindAllLengths() {
        Bits wrong = made(258, 4, 1, 18 + 100 * (138 - 11), 18 + 100 * (20 - 11), 2, 0, 2, 2, 0, 0);
        dueFaultAnywhere("letters, and distances", new Bits().add(wrong).number(0, 9), 5, wrong.length());
        Bits early = made(257, 30, 2, REST_0, REST_1, 2);
        dueEarlyEnd("letters, but distances are still to come", early);
        dueFaultAnywhere("letters, but a fault among distances", new Bits().add(early)
            .lengths(LENGTHS, List.of(18 + 100 * 127)), 7, early.length());
    }

    private static Bits begun() {
        return new Bits().head(1, 2).codes(257, 1, LENGTHS);
    }

    /** Before its number is read. */
    @Says("6 a symbol 16 with no length before it: at its first bit.")
    static void nothingBefore() {
        String word = Bits.wordsOf(LENGTHS)[16];
        int place = begun().length();
        for (int number = 0; number < 4; number++) {
            dueFaultAnywhere("16 at first, and " + number, begun().word(word).number(number, 2), 6, place);
        }
        dueAtTheEnd("16 at first", begun().word(word), 6, place);
        dueAtTheEnd("16 at first, and a bit", begun().word(word).number(0, 1), 6, place);
        Bits zeros = begun().lengths(LENGTHS, List.of(0, 16, 18 + 100 * (138 - 11), 18 + 100 * (115 - 11), 0));
        dueFault("16 behind a 0 is none", zeros, 5, zeros.length(), 0);
    }

    /** So many lengths are told that up to 138 are left; then one more than are left, and as many as are left. */
    @Says("7 more lengths than there are symbols: at the first bit of 16, 17 or 18 (behind 6; its number is read "
        + "before).")
    static void tooManyLengths() {
        for (int symbol = 16; symbol <= 18; symbol++) {
            int least = symbol == 18 ? 11 : 3;
            int most = symbol == 16 ? 6 : symbol == 17 ? 10 : 138;
            for (int times : new int[] {least, least + 1, most - 1, most}) {
                Bits bits = allBut(times - 1);
                int place = bits.length();
                bits.lengths(LENGTHS, List.of(symbol + 100 * (times - least)));
                dueFaultAnywhere(times + " by " + symbol + ", one too many", bits, 7, place);
                dueAtTheEnd(times + " by " + symbol + ", one too many", bits, 7, place);
                Bits good = allBut(times).lengths(LENGTHS, List.of(symbol + 100 * (times - least)));
                // All are 0: the code of letters is not full.
                dueFault(times + " by " + symbol + ", as many as are left", good, 5, good.length(), 0);
            }
            Bits cut = allBut(1).word(Bits.wordsOf(LENGTHS)[symbol]).number(0, symbol == 16 ? 1 : 2);
            dueEarlyEnd("too many by " + symbol + ", its number missing", cut);
        }
    }

    /** 258 lengths but so many, all 0. */
    private static Bits allBut(int left) {
        List<Integer> told = new ArrayList<>();
        told.addAll(Collections.nCopies((258 - left) % 11, 0));
        told.addAll(Collections.nCopies((258 - left) / 11, 18));
        return begun().lengths(LENGTHS, told);
    }

    @Says("(286, 287 and distances 30, 31 never may come.)")
    static void neverMayCome() {
        dueFaultAnywhere("letter 286", new Bits().head(1, 1).letter(286), 8, 3);
        dueFaultAnywhere("letter 287", new Bits().head(1, 1).letter(5).letter(287), 8, 11);
        dueAtTheEnd("letter 287", new Bits().head(1, 1).letter(5).letter(287), 8, 11);
        for (int j = 30; j <= 31; j++) {
            Bits near = new Bits().head(1, 1).letter(5).letter(257).distance(j);
            dueFaultAnywhere("distance " + j, near, 8, 18);
            dueAtTheEnd("distance " + j, near, 8, 18);
            Bits far = new Bits().head(1, 1).letter(5).letter(284).number(9, 5).distance(j);
            dueFaultAnywhere("distance " + j + " behind a number", far, 8, 24);
        }
    }

    /** A code of one distance has the bit 0 alone; without any both bits are wrong. */
    @Says("8 a symbol that never may come, or a bit that is in no code of distances: at the first bit of that symbol")
    static void bitInNoCode() {
        for (int distances : new int[] {1, 2}) {
            Bits bits = distances == 1 ? made(258, 1, 1, REST_0, REST_1, 2, 2, 1)
                : made(258, 2, 1, REST_0, REST_1, 2, 2, 0, 1);
            bits.word("0").word("0").word("11");
            int place = bits.length();
            dueFaultAnywhere("the bit 1", new Bits().add(bits).word("1"), 8, place);
            dueAtTheEnd("the bit 1", new Bits().add(bits).word("1"), 8, place);
            RowPacker x = TestKit.loaded(new Bits().add(bits).word("0").word("10").row());
            TestKit.due("the bit 0", x.unpack(RowPacker.BARE), 5);
        }
    }

    @Says("(where no distance has a code, one bit is read)")
    static void noCodeOfDistances() {
        for (int distances : new int[] {1, 2}) {
            Bits bits = distances == 1 ? made(258, 1, 1, REST_0, REST_1, 2, 2, 0)
                : made(258, 2, 1, REST_0, REST_1, 2, 2, 0, 0);
            bits.word("0").word("11");
            for (String bit : new String[] {"0", "1"}) {
                dueFaultAnywhere("the bit " + bit, new Bits().add(bits).word(bit), 8, bits.length());
                dueAtTheEnd("the bit " + bit, new Bits().add(bits).word(bit), 8, bits.length());
            }
            dueEarlyEnd("no bit", bits);
        }
    }

    /** As many as were unpacked is good, one more is not. */
    @Says("9 a distance that goes beyond what was unpacked (of this member): at the first bit of its symbol, its number "
        + "read.")
    static void tooFar() {
        dueFault("before the first byte", new Bits().head(1, 1).letter(257).distance(0), 9, 10, 0);
        dueFault("two of one byte", new Bits().head(1, 1).letter(5).letter(257).distance(1), 9, 18, 0);
        for (int many : new int[] {1, 2, 4, 5, 6, 7, 8, 12, 13, 256, 257}) {
            Bits bytes = new Bits().head(1, 1);
            for (int i = 0; i < many; i++) {
                bytes.letter(i % 100);
            }
            int place = bytes.letter(258).length();
            dueFault(many + 1 + " of " + many, stretch(bytes, many + 1), 9, place, 0);
            RowPacker x = TestKit.loaded(stretch(bytes, many).letter(256).row());
            TestKit.due(many + " of " + many, x.unpack(RowPacker.BARE), many + 4);
        }
        Bits blocks = new Bits().plain(0, 1, 2, 3).head(1, 1).letter(257).distance(3);
        dueFault("four of three bytes of a PLAIN block", blocks, 9, 64 + 10, 1);
        dueEarlyEnd("its number missing", new Bits().head(1, 1).letter(257).distance(29).number(8191, 12));
    }

    /** A distance of KIND 1 behind what stands there. */
    private static Bits stretch(Bits before, int distance) {
        int j = 29;
        while (PlainPacker.distanceFrom(j) > distance) {
            j--;
        }
        return new Bits().add(before).distance(j)
            .number(distance - PlainPacker.distanceFrom(j), PlainPacker.distanceBits(j));
    }

    private static Bits sevens(int last, int many) {
        return new Bits().head(last, 1).run(7, many);
    }

    @Says("10 there would be more than 65,536 bytes")
    static void tooManyBytes() {
        Bits full = sevens(1, 65536);
        dueFault("a byte", new Bits().add(full).letter(7), 10, full.length(), 0);
        dueFault("a stretch of 3", new Bits().add(full).letter(257).distance(0), 10, full.length(), 0);
        RowPacker x = TestKit.loaded(new Bits().add(full).letter(256).row());
        TestKit.due("65,536 by bytes", x.unpack(RowPacker.BARE), 65536);
        for (int length : new int[] {3, 4, 258}) {
            Bits room = sevens(1, 65536 - length);
            Bits letter = length == 258 ? new Bits().letter(285) : new Bits().letter(254 + length);
            TestKit.load(x, new Bits().add(room).add(letter).distance(0).letter(256).row());
            TestKit.due("65,536 by a stretch of " + length, x.unpack(RowPacker.BARE), 65536);
            room = sevens(1, 65537 - length);
            dueFault("65,537 by a stretch of " + length, new Bits().add(room).add(letter).distance(0), 10,
                room.length(), 0);
        }
        TestKit.load(x, sevens(0, 65530).letter(256).plain(1, 1, 2, 3, 4, 5, 6).row());
        TestKit.due("65,536 by a PLAIN block", x.unpack(RowPacker.BARE), 65536);
        Bits before = sevens(0, 65530).letter(256).head(1, 0).toByte();
        dueFault("65,537 by a PLAIN block", new Bits().add(before).number(7, 16).number(65528, 16)
            .bytes(1, 2, 3, 4, 5, 6, 7), 10, before.length(), 1);
        TestKit.load(x, sevens(0, 65536).letter(256).plain(1).row());
        TestKit.due("a PLAIN block without bytes behind 65,536", x.unpack(RowPacker.BARE), 65536);
    }

    private static final byte[] HEAD = TestKit.row(31, 139, 8, 0, 0, 0, 0, 0, 0, 255);

    /** A whole member of so many bytes 7. */
    private static byte[] memberOfSevens(int many) {
        java.util.zip.CRC32 sum = new java.util.zip.CRC32();
        sum.update(TestKit.filled(many, 7));
        byte[] tail = new Bits().number((int) sum.getValue(), 32).number(many, 32).row();
        return TestKit.join(HEAD, sevens(1, many).letter(256).row(), tail);
    }

    private static void dueBehind(String what, byte[] member, Bits packed, int fault, int place) {
        byte[] tape = TestKit.join(member, HEAD, packed.row());
        TestKit.dueFault(what, tape, RowPacker.LONG, fault, 8 * member.length + 80 + place, 1);
    }

    @Says("(of all MEMBERS together)")
    static void tooManyBytesOfMembers() {
        byte[] full = memberOfSevens(65536);
        dueBehind("a byte", full, new Bits().head(1, 1).letter(5).letter(256), 10, 3);
        dueBehind("a PLAIN block", full, new Bits().plain(1, 5), 10, 8);
        byte[] most = memberOfSevens(65530);
        dueBehind("a stretch", most, new Bits().head(1, 1).letter(5).letter(260).distance(0).letter(256), 10, 11);
        dueBehind("9 is before 10", most, new Bits().head(1, 1).letter(5).letter(285).distance(1), 9, 19);
        dueBehind("9 is before 10, at the begin", full, new Bits().head(1, 1).letter(257).distance(0), 9, 10);
        byte[] none = TestKit.join(HEAD, TestKit.row(3, 0), new byte[8]);
        RowPacker x = TestKit.loaded(TestKit.join(full, none));
        TestKit.due("a member without bytes", x.unpack(RowPacker.LONG), 65536);
        TestKit.load(x, TestKit.join(most, memberOfSevens(6)));
        TestKit.due("65,530 and 6", x.unpack(RowPacker.LONG), 65536);
        TestKit.load(x, TestKit.join(memberOfSevens(32768), memberOfSevens(32768)));
        TestKit.due("32,768 and 32,768", x.unpack(RowPacker.LONG), 65536);
    }

    /** Where a byte more has no room, its symbol alone tells; a stretch's number and distance are read before. */
    @Says("at the first bit of the symbol that is a byte or a length (its distance is read and looked at before)")
    static void distanceIsLookedAtBefore() {
        Bits full = sevens(1, 65536);
        dueFault("a distance that never may come", new Bits().add(full).letter(257).distance(30), 8,
            full.length() + 7, 0);
        dueFullAndCut("its number missing", new Bits().letter(284).number(0, 4));
        dueFullAndCut("its distance missing", new Bits().letter(257));
        dueFullAndCut("its distance's number missing", new Bits().letter(257).distance(29).number(0, 12));
        Bits far = sevens(1, 65534);
        dueFault("32,768 is not too far", new Bits().add(far).letter(257).distance(29).number(8191, 13), 10,
            far.length(), 0);
    }

    /** 65,536 bytes and the begin of a stretch; letters of 9 bits stand before until the TAPE ends with it. */
    private static void dueFullAndCut(String what, Bits cut) {
        for (int nines = 0; nines < 300; nines++) {
            Bits all = new Bits().head(1, 1);
            for (int i = 0; i < nines; i++) {
                all.letter(200);
            }
            all.run(7, 65536 - nines).add(cut);
            if (all.length() % 8 == 0) {
                dueFault(what, all, 1, all.length(), 0);
                return;
            }
        }
        TestKit.tellWrong(what + ": no such TAPE was found");
    }

    @Says("or of n (both numbers read before)")
    static void bothNumbersAreReadBefore() {
        Bits before = sevens(0, 65530).letter(256).head(1, 0).toByte();
        dueFault("3 is before 10", new Bits().add(before).number(7, 16).number(7, 16), 3, before.length() + 16, 1);
        dueFault("1 is before 10", new Bits().add(before).number(7, 16), 1, before.length() + 16, 1);
        dueFault("10 is before 1", new Bits().add(before).number(7, 16).number(65528, 16), 10, before.length(), 1);
        dueFault("room for 6 that are missing", new Bits().add(before).number(6, 16).number(65529, 16), 1,
            before.length() + 32, 1);
        dueFault("65,535 of them", new Bits().add(before).number(65535, 16).number(0, 16), 10, before.length(), 1);
    }

    @Says("the first one ends it; whatever is read is looked at as soon as it was read, of what is read together in the "
        + "order told")
    static void firstFault() {
        dueFault("two faults, one behind the other", new Bits().head(0, 1).letter(286).letter(257).distance(30), 8, 3,
            0);
        dueFault("8 before 9", new Bits().head(1, 1).letter(257).distance(31), 8, 10, 0);
        dueFault("2 before all", new Bits().head(1, 3).number(31, 5), 2, 1, 0);
        TestKit.dueFault("12 before what is in it", TestKit.row(120, 157, 7), RowPacker.SHORT, 12, 8, 0);
        TestKit.dueFault("2 before the sum", TestKit.row(120, 156, 7, 0, 0, 0, 0), RowPacker.SHORT, 2, 17, 0);
        TestKit.dueFault("13 before 11", TestKit.row(120, 156, 3, 0, 0, 0, 0, 2, 9), RowPacker.SHORT, 13, 32, 1);
    }

    @Says("The fault of the latest pack() or unpack(); 0 without one.")
    static void faultOfTheLatest() {
        RowPacker x = TestKit.loaded(new Bits().plain(0, 5).head(1, 3).row());
        TestKit.due("before any", x.fault(), 0);
        x.unpack(RowPacker.BARE);
        TestKit.due("of unpack", x.fault(), 2);
        TestKit.load(x, TestKit.row(3, 0));
        x.turn();
        TestKit.due("still, the TAPE being another", x.fault(), 2);
        TestKit.load(x, TestKit.row(3, 0));
        TestKit.due("a good one", x.unpack(RowPacker.BARE), 0);
        TestKit.due("none behind a good one", x.fault(), 0);
        TestKit.due("another", x.unpack(RowPacker.SHORT), RowPacker.NONE);
        TestKit.due("of another", x.fault(), 12);
        x.pack(RowPacker.BARE);
        TestKit.due("none behind pack", x.fault(), 0);
    }

    @Says("The bit at which it is (for 11 to 14 the first one of that byte); NONE without one.")
    static void placeOfTheLatest() {
        RowPacker x = TestKit.loaded(TestKit.row(3, 0, 0));
        TestKit.due("before any", x.place(), RowPacker.NONE);
        x.unpack(RowPacker.BARE);
        TestKit.due("of 11", x.place(), 16);
        x.unpack(RowPacker.SHORT);
        TestKit.due("of 12 at the first byte", x.place(), 0);
        x.end(2);
        TestKit.due("still, the TAPE being another", x.place(), 0);
        x.unpack(RowPacker.BARE);
        TestKit.due("none behind a good one", x.place(), RowPacker.NONE);
        // A PLAIN block on the longest TAPE that has one byte fewer than it tells.
        Bits numbers = new Bits().head(1, 0).toByte().number(32764, 16).number(65535 - 32764, 16);
        TestKit.load(x, TestKit.join(numbers.row(), TestKit.filled(32763, 0)));
        x.unpack(RowPacker.BARE);
        TestKit.due("of 1 at the end of the longest TAPE", x.place(), 262144);
        x.pack(RowPacker.BARE);
        TestKit.due("none behind pack", x.place(), RowPacker.NONE);
    }
}
