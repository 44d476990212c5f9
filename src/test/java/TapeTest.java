import java.util.Arrays;
import java.util.zip.Adler32;
import java.util.zip.CRC32;

/** Promises 1 to 5 and 10 to 13: what stands on the TAPE and in OUT, and what is asked of them. */
public final class TapeTest {
    private static final Class<IllegalArgumentException> ARGUMENT = IllegalArgumentException.class;
    private static final Class<IllegalStateException> STATE = IllegalStateException.class;
    private static final Class<IndexOutOfBoundsException> INDEX = IndexOutOfBoundsException.class;
    private static final int LEAST = Integer.MIN_VALUE, GREATEST = Integer.MAX_VALUE;

    public static void main(String[] args) throws Exception {
        Edges.run(TapeTest.class);
        TestKit.finish();
    }

    /** An object whose TAPE has the bytes 1 .. many and nothing else has happened to it. */
    private static RowPacker counted(int many) {
        byte[] bytes = new byte[many];
        for (int i = 0; i < many; i++) {
            bytes[i] = (byte) (i + 1);
        }
        return TestKit.loaded(bytes);
    }

    private static RowPacker withTape(int many) {
        RowPacker x = counted(1);
        x.again(1, many - 1);
        return x;
    }

    /** An object whose OUT has so many bytes 7, unpacked. */
    private static RowPacker withOut(int many) {
        RowPacker x = TestKit.loaded(new Bits().head(1, 1).run(7, many).letter(256).row());
        TestKit.due("unpack", x.unpack(RowPacker.BARE), many);
        return x;
    }

    @Says("THE TAPE is a row of at most 32,768 bytes (0 .. 255)")
    static void tapeOf32768() {
        RowPacker x = withTape(32768);
        TestKit.due("all of it", TestKit.tapeLength(x), 32768);
        TestKit.due("its last byte", x.change(32767, 254), 255);
        TestKit.due("its first byte", x.change(0, 1), 0);
        byte[] want = TestKit.filled(32768, 1);
        want[0] = 0;
        want[32767] = (byte) 255;
        TestKit.dueRow("the TAPE", TestKit.tapeOf(x), want);
        TestKit.due("pack", x.pack(RowPacker.BARE) > 0 ? 1 : 0, 1);
        x.turn();
        TestKit.due("unpacked again", x.unpack(RowPacker.BARE), 32768);
        TestKit.dueRow("as it was", TestKit.outOf(x), want);
    }

    @Says("it is typed twenty at a time, cut, and grows by what it has")
    static void typedCutAndGrown() {
        RowPacker x = new RowPacker();
        TestKit.due("typed", x.feed(0x01020304, 0x05060708, 0x090A0B0C, 0x0D0E0F10, 0x11121314), 20);
        x.end(3);
        TestKit.due("grown", x.again(2, 3), 6);
        TestKit.due("typed behind it", x.feed(-1, 0, 0, 0, 0), 26);
        byte[] want = Arrays.copyOf(TestKit.row(1, 2, 3, 2, 3, 2, 255, 255, 255, 255), 26);
        TestKit.dueRow("the TAPE", TestKit.tapeOf(x), want);
    }

    @Says("what reads it leaves it as it is")
    static void readersLeaveTheTape() {
        byte[] good = new Bits().head(1, 1).letter(7).letter(285).distance(0).letter(256).row();
        byte[] bad = Arrays.copyOf(good, good.length - 1);
        byte[] full = TestKit.filled(32768, 170);
        for (byte[] tape : new byte[][] {new byte[0], good, bad, full}) {
            RowPacker x = TestKit.loaded(tape);
            for (int wrapper = 0; wrapper < 3; wrapper++) {
                x.pack(wrapper);
                TestKit.dueRow("behind pack(" + wrapper + ")", TestKit.tapeOf(x), tape);
                x.unpack(wrapper);
                TestKit.dueRow("behind unpack(" + wrapper + ")", TestKit.tapeOf(x), tape);
                x.sum(wrapper % 2);
                TestKit.dueRow("behind sum(" + wrapper % 2 + ")", TestKit.tapeOf(x), tape);
            }
        }
    }

    @Says("OUT is another row, at first empty.")
    static void outIsAnotherRow() {
        RowPacker x = new RowPacker();
        TestKit.due("size", x.size(), 0);
        x.feed(1, 2, 3, 4, 5);
        TestKit.due("size, the TAPE having bytes", x.size(), 0);
        TestKit.dueThrow("out(0)", INDEX, () -> x.out(0));
        TestKit.due("turn of an empty OUT", x.turn(), 0);
        TestKit.load(x, new Bits().plain(1, 7, 255, 128).row());
        x.unpack(RowPacker.BARE);
        TestKit.load(x, TestKit.filled(20, 9));
        TestKit.dueRow("OUT, the TAPE being another", TestKit.outOf(x), TestKit.row(7, 255, 128));
    }

    /** Every call that can throw, on a new object, on one with blocks and stretches, and on one with a fault. */
    @Says("A call that throws changes nothing")
    static void refusedCallsChangeNothing() {
        RowPacker packed = withTape(32760);
        packed.pack(RowPacker.LONG);
        RowPacker large = withOut(40000);
        RowPacker faulty = TestKit.loaded(new Bits().plain(0, 5).head(0, 1).letter(7).letter(257).distance(0)
            .letter(286).row());
        faulty.unpack(RowPacker.BARE);
        TestKit.due("a fault", faulty.fault(), 8);
        TestKit.due("a stretch", faulty.stretches(), 1);
        for (RowPacker x : new RowPacker[] {new RowPacker(), packed, large, faulty}) {
            refusedEverywhere(x);
        }
        TestKit.dueThrowWithoutChange(packed, "feed", STATE, () -> packed.feed(1, 2, 3, 4, 5));
        TestKit.dueThrowWithoutChange(packed, "again", STATE, () -> packed.again(1, 9));
        TestKit.dueThrowWithoutChange(large, "turn", STATE, () -> large.turn());
        TestKit.dueThrowWithoutChange(packed, "change", ARGUMENT, () -> packed.change(5, 257));
        TestKit.dueThrowWithoutChange(packed, "block", ARGUMENT, () -> packed.block(0, 4));
    }

    private static void refusedEverywhere(RowPacker x) {
        TestKit.dueThrowWithoutChange(x, "end", ARGUMENT, () -> x.end(-1));
        TestKit.dueThrowWithoutChange(x, "again", ARGUMENT, () -> x.again(0, 3));
        TestKit.dueThrowWithoutChange(x, "change", INDEX, () -> x.change(-1, 3));
        TestKit.dueThrowWithoutChange(x, "pack", ARGUMENT, () -> x.pack(3));
        TestKit.dueThrowWithoutChange(x, "unpack", ARGUMENT, () -> x.unpack(3));
        TestKit.dueThrowWithoutChange(x, "out", INDEX, () -> x.out(-1));
        TestKit.dueThrowWithoutChange(x, "sum", ARGUMENT, () -> x.sum(2));
        TestKit.dueThrowWithoutChange(x, "block", INDEX, () -> x.block(-1, 0));
    }

    @Says("of several exceptions the one named first is thrown")
    static void firstOfSeveralExceptions() {
        RowPacker x = counted(20);
        x.pack(RowPacker.BARE);
        TestKit.dueThrow("again: many far too many, back 0", ARGUMENT, () -> x.again(0, 32768));
        TestKit.dueThrow("again: many far too many, back 21", ARGUMENT, () -> x.again(21, GREATEST));
        TestKit.dueThrow("change: no byte, no number", INDEX, () -> x.change(20, 256));
        TestKit.dueThrow("change: no byte below, no number below", INDEX, () -> x.change(-1, -1));
        TestKit.dueThrow("block: none behind, another what", INDEX, () -> x.block(1, 4));
        TestKit.dueThrow("block: none before, another what", INDEX, () -> x.block(-1, -1));
        RowPacker full = withTape(32768);
        TestKit.dueThrow("again: no room, back 0", ARGUMENT, () -> full.again(0, 1));
        TestKit.dueThrow("again: no room, back too much", ARGUMENT, () -> full.again(32769, 1));
    }

    @Says("IndexOutOfBoundsException: there is no such byte, block.")
    static void noSuchByteOrBlock() {
        RowPacker x = new RowPacker();
        for (int i : new int[] {0, -1, 1, LEAST, GREATEST}) {
            TestKit.dueThrow("change(" + i + ", 0) of an empty TAPE", INDEX, () -> x.change(i, 0));
            TestKit.dueThrow("out(" + i + ") of an empty OUT", INDEX, () -> x.out(i));
            TestKit.dueThrow("block(" + i + ", 0) without any", INDEX, () -> x.block(i, 0));
        }
    }

    /** The least and the greatest number that is as said, and those beside them. */
    @Says("IllegalArgumentException: another number is not as said.")
    static void numbersNotAsSaid() {
        RowPacker x = counted(20);
        x.pack(RowPacker.BARE);
        for (int number : new int[] {-1, 3}) {
            TestKit.dueThrowWithoutChange(x, "pack(" + number + ")", ARGUMENT, () -> x.pack(number));
            TestKit.dueThrowWithoutChange(x, "unpack(" + number + ")", ARGUMENT, () -> x.unpack(number));
        }
        for (int number : new int[] {-1, 2}) {
            TestKit.dueThrowWithoutChange(x, "sum(" + number + ")", ARGUMENT, () -> x.sum(number));
        }
        for (int number : new int[] {-1, 4}) {
            TestKit.dueThrowWithoutChange(x, "block(0, " + number + ")", ARGUMENT, () -> x.block(0, number));
        }
        for (int number : new int[] {-1, 256}) {
            TestKit.dueThrowWithoutChange(x, "change(0, " + number + ")", ARGUMENT, () -> x.change(0, number));
        }
        for (int number : new int[] {-1, 21}) {
            TestKit.dueThrowWithoutChange(x, "end(" + number + ")", ARGUMENT, () -> x.end(number));
        }
        for (int number : new int[] {0, 21}) {
            TestKit.dueThrowWithoutChange(x, "again(" + number + ", 1)", ARGUMENT, () -> x.again(number, 1));
        }
        TestKit.dueThrowWithoutChange(x, "again(1, -1)", ARGUMENT, () -> x.again(1, -1));
        for (int wrapper = 0; wrapper < 3; wrapper++) {
            TestKit.due("pack(" + wrapper + ")", x.pack(wrapper), x.size());
            TestKit.due("unpack(" + wrapper + ")", x.unpack(wrapper), RowPacker.NONE);
        }
    }

    @Says("IllegalStateException: there would be more than 32,768 bytes on the TAPE.")
    static void moreThan32768() {
        RowPacker typed = withTape(32748);
        TestKit.due("feed up to 32,768", typed.feed(1, 2, 3, 4, 5), 32768);
        RowPacker over = withTape(32749);
        TestKit.dueThrowWithoutChange(over, "feed up to 32,769", STATE, () -> over.feed(1, 2, 3, 4, 5));
        TestKit.due("again up to 32,768", over.again(1, 19), 32768);
        TestKit.due("again, no byte more", over.again(1, 0), 32768);
        TestKit.dueThrowWithoutChange(over, "again up to 32,769", STATE, () -> over.again(1, 1));
        RowPacker out = withOut(32768);
        TestKit.due("turn of 32,768", out.turn(), 32768);
        RowPacker more = withOut(32769);
        TestKit.dueThrowWithoutChange(more, "turn of 32,769", STATE, () -> more.turn());
    }

    @Says("The TAPE and OUT are empty; no fault, no block.")
    static void newObject() {
        RowPacker x = new RowPacker();
        TestKit.due("bytes on the TAPE", TestKit.tapeLength(x), 0);
        TestKit.due("size", x.size(), 0);
        TestKit.due("fault", x.fault(), 0);
        TestKit.due("place", x.place(), RowPacker.NONE);
        TestKit.due("blocks", x.blocks(), 0);
        TestKit.due("stretches", x.stretches(), 0);
        TestKit.due("SUM A", x.sum(0), 1);
        TestKit.due("SUM B", x.sum(1), 0);
        RowPacker other = withOut(9);
        TestKit.due("size of a second object", other.size(), 9);
        TestKit.due("size of the first one still", x.size(), 0);
    }

    @Says("Twenty bytes more on the TAPE, those of a first, the highest byte of each first: how many it has then.")
    static void feedIsHighestByteFirst() {
        RowPacker x = new RowPacker();
        TestKit.due("feed", x.feed(0x01020384, 0x05060708, 0x890A0B0C, 0x0D0E0FFF, 0x11121314), 20);
        byte[] want = TestKit.row(1, 2, 3, 0x84, 5, 6, 7, 8, 0x89, 10, 11, 12, 13, 14, 15, 255, 17, 18, 19, 20);
        TestKit.dueRow("the TAPE", TestKit.tapeOf(x), want);
        TestKit.due("feed of edges", x.feed(-1, 0, LEAST, GREATEST, 1), 40);
        byte[] more = TestKit.row(255, 255, 255, 255, 0, 0, 0, 0, 128, 0, 0, 0, 127, 255, 255, 255, 0, 0, 0, 1);
        TestKit.dueRow("the TAPE", TestKit.tapeOf(x), TestKit.join(want, more));
    }

    /** A TAPE that is nearly full has no room for twenty, even if it had for nineteen. */
    @Says("how many it has then. IllegalStateException.")
    static void feedRefuses() {
        for (int many = 32749; many <= 32768; many++) {
            RowPacker x = withTape(many);
            TestKit.dueThrowWithoutChange(x, "feed behind " + many, STATE, () -> x.feed(9, 9, 9, 9, 9));
        }
    }

    @Says("The TAPE is cut behind its first n bytes.")
    static void endCuts() {
        RowPacker x = counted(20);
        x.end(20);
        TestKit.due("bytes behind end(20)", TestKit.tapeLength(x), 20);
        x.end(19);
        TestKit.due("bytes behind end(19)", TestKit.tapeLength(x), 19);
        TestKit.dueThrow("the byte that was cut off", INDEX, () -> x.change(19, 0));
        TestKit.dueThrow("back to where it was", ARGUMENT, () -> x.end(20));
        x.end(1);
        TestKit.dueRow("one byte", TestKit.tapeOf(x), TestKit.row(1));
        TestKit.due("SUM A of it", x.sum(0), 0x00020002);
        x.end(0);
        TestKit.due("bytes behind end(0)", TestKit.tapeLength(x), 0);
        x.end(0);
        TestKit.due("feed behind it", x.feed(-1, 0, 0, 0, 0), 20);
        TestKit.due("byte 0", x.change(0, 0), 255);
        RowPacker full = withTape(32768);
        full.end(32768);
        TestKit.due("bytes behind end(32768)", TestKit.tapeLength(full), 32768);
    }

    @Says("IllegalArgumentException: n is below 0 or more than it has.")
    static void endRefuses() {
        RowPacker empty = new RowPacker();
        TestKit.dueThrowWithoutChange(empty, "end(1) of an empty TAPE", ARGUMENT, () -> empty.end(1));
        TestKit.dueThrowWithoutChange(empty, "end(-1) of an empty TAPE", ARGUMENT, () -> empty.end(-1));
        RowPacker x = counted(20);
        for (int n : new int[] {-1, LEAST, 21, 32768, GREATEST}) {
            TestKit.dueThrowWithoutChange(x, "end(" + n + ")", ARGUMENT, () -> x.end(n));
        }
        RowPacker full = withTape(32768);
        TestKit.dueThrowWithoutChange(full, "end(32769)", ARGUMENT, () -> full.end(32769));
    }

    @Says("So many bytes more, each like the one that stands back before it: how many it has then.")
    static void againGrows() {
        RowPacker x = counted(4);
        TestKit.due("again(2, 5), more than it goes back", x.again(2, 5), 9);
        TestKit.dueRow("the TAPE", TestKit.tapeOf(x), TestKit.row(1, 2, 3, 4, 3, 4, 3, 4, 3));
        TestKit.due("again(9, 2), back to the first one", x.again(9, 2), 11);
        TestKit.due("again(1, 2)", x.again(1, 2), 13);
        TestKit.due("again(3, 0), none", x.again(3, 0), 13);
        TestKit.dueRow("the TAPE", TestKit.tapeOf(x), TestKit.row(1, 2, 3, 4, 3, 4, 3, 4, 3, 1, 2, 2, 2));
        TestKit.due("again(13, 32755), up to the edge", x.again(13, 32755), 32768);
        TestKit.due("its last byte", x.change(32767, 0), 4);
        TestKit.due("again(32768, 0)", x.again(32768, 0), 32768);
    }

    @Says("IllegalArgumentException: many is below 0, back not 1 .. as many as there are (also if many is 0)")
    static void againRefusesItsNumbers() {
        RowPacker empty = new RowPacker();
        for (int back : new int[] {0, 1, -1}) {
            TestKit.dueThrowWithoutChange(empty, "again(" + back + ", 0), empty", ARGUMENT, () -> empty.again(back, 0));
            TestKit.dueThrowWithoutChange(empty, "again(" + back + ", 5), empty", ARGUMENT, () -> empty.again(back, 5));
        }
        RowPacker x = counted(20);
        for (int back : new int[] {0, -1, 21, LEAST, GREATEST}) {
            TestKit.dueThrowWithoutChange(x, "again(" + back + ", 0)", ARGUMENT, () -> x.again(back, 0));
            TestKit.dueThrowWithoutChange(x, "again(" + back + ", 1)", ARGUMENT, () -> x.again(back, 1));
        }
        for (int many : new int[] {-1, LEAST}) {
            TestKit.dueThrowWithoutChange(x, "again(1, " + many + ")", ARGUMENT, () -> x.again(1, many));
        }
        TestKit.due("again(20, 0)", x.again(20, 0), 20);
    }

    @Says("back not 1 .. as many as there are (also if many is 0); IllegalStateException.")
    static void againRefusesTooMany() {
        RowPacker x = counted(20);
        for (int many : new int[] {32749, 32768, GREATEST, GREATEST - 20}) {
            TestKit.dueThrowWithoutChange(x, "again(20, " + many + ")", STATE, () -> x.again(20, many));
        }
        TestKit.due("again(20, 32748)", x.again(20, 32748), 32768);
    }

    @Says("Byte i of the TAPE is another one, as a number put upon it tells (where bits differ is 1): what it is then.")
    static void changePutsUpon() {
        RowPacker x = new RowPacker();
        x.feed(0xF0000000, 0, 0, 0, 0x000000AA);
        TestKit.due("change(0, 0x3C)", x.change(0, 0x3C), 0xCC);
        TestKit.due("change(0, 0)", x.change(0, 0), 0xCC);
        TestKit.due("change(0, 255)", x.change(0, 255), 0x33);
        TestKit.due("change(19, 255)", x.change(19, 255), 0x55);
        TestKit.due("change(19, 128)", x.change(19, 128), 0xD5);
        byte[] want = new byte[20];
        want[0] = 0x33;
        want[19] = (byte) 0xD5;
        TestKit.dueRow("the TAPE", TestKit.tapeOf(x), want);
    }

    @Says("what it is then. IndexOutOfBoundsException")
    static void changeRefusesTheIndex() {
        RowPacker x = counted(20);
        for (int i : new int[] {20, 21, -1, LEAST, GREATEST}) {
            TestKit.dueThrowWithoutChange(x, "change(" + i + ", 1)", INDEX, () -> x.change(i, 1));
        }
        x.end(10);
        TestKit.dueThrowWithoutChange(x, "change(10, 1) behind a cut", INDEX, () -> x.change(10, 1));
        TestKit.due("change(9, 1)", x.change(9, 1), 11);
    }

    @Says("IllegalArgumentException: the number is not 0 .. 255.")
    static void changeRefusesTheNumber() {
        RowPacker x = counted(20);
        for (int by : new int[] {256, -1, 511, LEAST, GREATEST}) {
            TestKit.dueThrowWithoutChange(x, "change(0, " + by + ")", ARGUMENT, () -> x.change(0, by));
        }
    }

    @Says("How many bytes OUT has.")
    static void sizes() {
        TestKit.due("size of 1", withOut(1).size(), 1);
        TestKit.due("size of 65,536", withOut(65536).size(), 65536);
        RowPacker x = new RowPacker();
        x.pack(RowPacker.LONG);
        TestKit.due("size of nothing packed LONG", x.size(), 20);
        x.feed(0, 0, 0, 0, 0);
        x.end(1);
        TestKit.due("size, as the TAPE changes", x.size(), 20);
        TestKit.due("unpack of a fault", x.unpack(RowPacker.BARE), RowPacker.NONE);
        TestKit.due("size with a fault", x.size(), 0);
    }

    @Says("Byte i of OUT. IndexOutOfBoundsException.")
    static void bytesOfOut() {
        RowPacker x = TestKit.loaded(new Bits().plain(1, 7, 255, 128, 0).row());
        x.unpack(RowPacker.BARE);
        TestKit.dueRow("OUT", TestKit.outOf(x), TestKit.row(7, 255, 128, 0));
        TestKit.due("out(1) is no number below 0", x.out(1), 255);
        for (int i : new int[] {4, 5, -1, LEAST, GREATEST}) {
            TestKit.dueThrowWithoutChange(x, "out(" + i + ")", INDEX, () -> x.out(i));
        }
        RowPacker full = withOut(65536);
        TestKit.due("out(65535)", full.out(65535), 7);
        TestKit.dueThrow("out(65536)", INDEX, () -> full.out(65536));
        x.end(1);
        x.unpack(RowPacker.BARE);
        TestKit.dueThrow("out(0) with a fault", INDEX, () -> x.out(0));
    }

    @Says("The TAPE becomes OUT (which stays): how many bytes it has. IllegalStateException.")
    static void turnTakesOut() {
        RowPacker x = TestKit.loaded(new Bits().plain(1, 7, 255, 128).row());
        x.unpack(RowPacker.BARE);
        TestKit.due("turn", x.turn(), 3);
        TestKit.dueRow("the TAPE", TestKit.tapeOf(x), TestKit.row(7, 255, 128));
        x.change(1, 1);
        x.feed(0, 0, 0, 0, 0);
        TestKit.dueRow("OUT stays", TestKit.outOf(x), TestKit.row(7, 255, 128));
        TestKit.due("blocks stay", x.blocks(), 1);
        TestKit.due("turn once more", x.turn(), 3);
        TestKit.dueRow("the TAPE again", TestKit.tapeOf(x), TestKit.row(7, 255, 128));
        x.end(1);
        x.unpack(RowPacker.BARE);
        TestKit.due("a fault", x.fault(), 2);
        TestKit.due("turn of an empty OUT", x.turn(), 0);
        TestKit.due("an empty TAPE", TestKit.tapeLength(x), 0);
        TestKit.due("the fault stays", x.fault(), 2);
    }

    @Says("SUM A (0) or SUM B (1) of the TAPE. IllegalArgumentException.")
    static void sumsOfTheTape() {
        RowPacker x = TestKit.loaded("123456789".getBytes());
        TestKit.due("SUM A of 123456789", x.sum(0), 0x091E01DEL);
        TestKit.due("SUM B of 123456789", x.sum(1), 0xCBF43926L);
        for (int which : new int[] {2, -1, LEAST, GREATEST}) {
            TestKit.dueThrowWithoutChange(x, "sum(" + which + ")", ARGUMENT, () -> x.sum(which));
        }
        x.pack(RowPacker.BARE);
        TestKit.due("SUM A is none of OUT", x.sum(0), 0x091E01DEL);
        for (int many : new int[] {1, 255, 256, 257, 5552, 5553, 32768}) {
            byte[] bytes = TestKit.filled(many, 255);
            TestKit.load(x, bytes);
            Adler32 a = new Adler32();
            a.update(bytes);
            CRC32 b = new CRC32();
            b.update(bytes);
            TestKit.due("SUM A of " + many + " bytes 255", x.sum(0), a.getValue());
            TestKit.due("SUM B of " + many + " bytes 255", x.sum(1), b.getValue());
        }
    }

    /** 256 times 255 and 239, 240, 241 make a 65520, 0 and 1; 241 * 270 + 451 makes b 65521, that is 0. */
    @Says({"both without multiples of 65521", "it is 65536 * b + a"})
    static void sumAAtTheModulus() {
        byte[] bytes = TestKit.filled(257, 255);
        for (int last = 239; last <= 241; last++) {
            bytes[256] = (byte) last;
            TestKit.due("a with " + last, TestKit.loaded(bytes).sum(0) % 65536, (65281 + last) % 65521);
        }
        byte[] others = new byte[271];
        others[0] = (byte) 240;
        for (int last = 209; last <= 211; last++) {
            others[270] = (byte) last;
            long a = 241 + last;
            TestKit.due("b with " + last, TestKit.loaded(others).sum(0), (65070 + a) % 65521 * 65536 + a);
        }
    }

    @Says("SUM A: a is 1, b 0 at first; with each byte a becomes a + it, and b then b + a")
    static void sumAOfLittle() {
        TestKit.due("SUM A of nothing", new RowPacker().sum(0), 1);
        TestKit.due("SUM A of a byte 0", TestKit.loaded(TestKit.row(0)).sum(0), 0x00010001);
        TestKit.due("SUM A of a byte 255", TestKit.loaded(TestKit.row(255)).sum(0), 0x01000100);
    }

    /** A sum of 32 bits whose highest one is 1 is no number below 0. */
    @Says({"SUM B: 32 bits, all 1 at first", "at the end each bit is turned over"})
    static void sumBOfLittle() {
        TestKit.due("SUM B of nothing", new RowPacker().sum(1), 0);
        TestKit.due("SUM B of a byte 0", TestKit.loaded(TestKit.row(0)).sum(1), 0xD202EF8DL);
        TestKit.due("SUM B of a byte 255", TestKit.loaded(TestKit.row(255)).sum(1), 0xFF000000L);
        TestKit.due("SUM B of four bytes 255", TestKit.loaded(TestKit.filled(4, 255)).sum(1), 0xFFFFFFFFL);
    }

    /** The steps as the document tells them, on numbers that never are below 0. */
    @Says("each byte is put upon the lowest eight (where bits differ is 1), and eight times the bits go down by one, "
        + "and if the one that fell out was 1, 3988292384 is put upon them")
    static void sumBStepByStep() {
        for (int value = 0; value < 256; value++) {
            int[] three = {value, 255 - value, value * 7 & 255};
            long bits = 4294967295L;
            for (int one : three) {
                bits ^= one;
                for (int step = 0; step < 8; step++) {
                    bits = bits % 2 == 1 ? bits / 2 ^ 3988292384L : bits / 2;
                }
            }
            TestKit.due("SUM B of three with " + value, TestKit.loaded(TestKit.row(three)).sum(1), 4294967295L - bits);
        }
    }
}
