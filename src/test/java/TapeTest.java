import java.util.zip.Adler32;
import java.util.zip.CRC32;

/** Promises 1 to 5 and 10 to 13: what stands on the TAPE and in OUT, and what is asked of them. */
public final class TapeTest {
    private static final Class<IllegalArgumentException> ARGUMENT = IllegalArgumentException.class;
    private static final Class<IllegalStateException> STATE = IllegalStateException.class;
    private static final Class<IndexOutOfBoundsException> INDEX = IndexOutOfBoundsException.class;

    public static void main(String[] args) {
        newObject();
        feedIsHighestByteFirst();
        feedUpToTheEdge();
        endCuts();
        againGrows();
        againRefuses();
        changePutsUpon();
        outAndSize();
        turnTakesOut();
        turnRefuses();
        sumsOfTheTape();
        sumAtTheModulus();
        TestKit.finish();
    }

    /** Promise 1. */
    private static void newObject() {
        RowPacker x = new RowPacker();
        TestKit.due("size of a new object", x.size(), 0);
        TestKit.due("fault of a new object", x.fault(), 0);
        TestKit.due("place of a new object", x.place(), RowPacker.NONE);
        TestKit.due("blocks of a new object", x.blocks(), 0);
        TestKit.due("stretches of a new object", x.stretches(), 0);
        TestKit.due("sum A of an empty TAPE", x.sum(0), 1);
        TestKit.due("sum B of an empty TAPE", x.sum(1), 0);
        TestKit.due("bytes on the TAPE of a new object", TestKit.tapeLength(x), 0);
        TestKit.dueThrowWithoutChange(x, "out(0) of a new object", INDEX, () -> x.out(0));
        TestKit.dueThrowWithoutChange(x, "block(0, 0) of a new object", INDEX, () -> x.block(0, 0));
        TestKit.dueThrowWithoutChange(x, "change(0, 0) of a new object", INDEX, () -> x.change(0, 0));
        TestKit.due("turn() of a new object", x.turn(), 0);
    }

    /** Promise 2: the bytes can be seen one by one through change(i, 0). */
    private static void feedIsHighestByteFirst() {
        RowPacker x = new RowPacker();
        TestKit.due("feed", x.feed(0x01020384, 0x05060708, 0x890A0B0C, 0x0D0E0FFF, 0x11121314), 20);
        int[] due = {1, 2, 3, 0x84, 5, 6, 7, 8, 0x89, 10, 11, 12, 13, 14, 15, 255, 17, 18, 19, 20};
        for (int i = 0; i < 20; i++) {
            TestKit.due("byte " + i, x.change(i, 0), due[i]);
        }
        TestKit.due("feed", x.feed(-1, 0, 0, 0, 0), 40);
        TestKit.due("byte 19", x.change(19, 0), 20);
        TestKit.due("byte 20", x.change(20, 0), 255);
        TestKit.due("byte 24", x.change(24, 0), 0);
        TestKit.dueThrow("byte 40", INDEX, () -> x.change(40, 0));
    }

    private static void feedUpToTheEdge() {
        RowPacker x = new RowPacker();
        x.feed(1, 2, 3, 4, 5);
        TestKit.due("again", x.again(20, 32768 - 40), 32748);
        TestKit.due("feed to 32,768", x.feed(9, 9, 9, 9, 9), 32768);
        TestKit.dueThrowWithoutChange(x, "feed behind 32,768", STATE, () -> x.feed(1, 1, 1, 1, 1));
        x.end(32749);
        TestKit.dueThrowWithoutChange(x, "feed to 32,769", STATE, () -> x.feed(1, 1, 1, 1, 1));
        TestKit.due("bytes still there", TestKit.tapeLength(x), 32749);
    }

    /** Promise 3. */
    private static void endCuts() {
        RowPacker x = new RowPacker();
        TestKit.dueThrowWithoutChange(x, "end(1) of an empty TAPE", ARGUMENT, () -> x.end(1));
        x.end(0);
        x.feed(0x01020304, 0x05060708, 0, 0, 0);
        x.end(20);
        TestKit.due("bytes behind end(20)", TestKit.tapeLength(x), 20);
        TestKit.dueThrowWithoutChange(x, "end(21)", ARGUMENT, () -> x.end(21));
        TestKit.dueThrowWithoutChange(x, "end(-1)", ARGUMENT, () -> x.end(-1));
        TestKit.dueThrowWithoutChange(x, "end of the least int", ARGUMENT, () -> x.end(Integer.MIN_VALUE));
        TestKit.dueThrowWithoutChange(x, "end of the greatest int", ARGUMENT, () -> x.end(Integer.MAX_VALUE));
        x.end(5);
        TestKit.due("bytes behind end(5)", TestKit.tapeLength(x), 5);
        TestKit.due("the last one", x.change(4, 0), 5);
        TestKit.dueThrow("one behind it", INDEX, () -> x.change(5, 0));
        TestKit.due("feed goes on behind the cut", x.feed(-1, 0, 0, 0, 0), 25);
        TestKit.due("byte 5", x.change(5, 0), 255);
        x.end(0);
        TestKit.due("bytes behind end(0)", TestKit.tapeLength(x), 0);
    }

    /** Promise 4. */
    private static void againGrows() {
        RowPacker x = new RowPacker();
        x.feed(0x01020304, 0, 0, 0, 0);
        x.end(4);
        TestKit.due("again(2, 5)", x.again(2, 5), 9);
        int[] due = {1, 2, 3, 4, 3, 4, 3, 4, 3};
        for (int i = 0; i < 9; i++) {
            TestKit.due("byte " + i, x.change(i, 0), due[i]);
        }
        TestKit.due("again(9, 0)", x.again(9, 0), 9);
        TestKit.due("again(9, 2)", x.again(9, 2), 11);
        TestKit.due("byte 9", x.change(9, 0), 1);
        TestKit.due("byte 10", x.change(10, 0), 2);
        TestKit.due("again to 32,768", x.again(1, 32757), 32768);
        TestKit.due("last byte", x.change(32767, 0), 2);
        TestKit.due("again(32768, 0)", x.again(32768, 0), 32768);
    }

    private static void againRefuses() {
        RowPacker x = new RowPacker();
        TestKit.dueThrowWithoutChange(x, "again(1, 0) of an empty TAPE", ARGUMENT, () -> x.again(1, 0));
        x.feed(1, 2, 3, 4, 5);
        TestKit.dueThrowWithoutChange(x, "again(0, 0)", ARGUMENT, () -> x.again(0, 0));
        TestKit.dueThrowWithoutChange(x, "again(21, 0)", ARGUMENT, () -> x.again(21, 0));
        TestKit.dueThrowWithoutChange(x, "again(-1, 3)", ARGUMENT, () -> x.again(-1, 3));
        TestKit.dueThrowWithoutChange(x, "again(1, -1)", ARGUMENT, () -> x.again(1, -1));
        TestKit.dueThrowWithoutChange(x, "again(0, 40000)", ARGUMENT, () -> x.again(0, 40000));
        TestKit.dueThrowWithoutChange(x, "again(21, greatest)", ARGUMENT, () -> x.again(21, Integer.MAX_VALUE));
        TestKit.dueThrowWithoutChange(x, "again(20, 32749)", STATE, () -> x.again(20, 32749));
        TestKit.dueThrowWithoutChange(x, "again(1, greatest)", STATE, () -> x.again(1, Integer.MAX_VALUE));
        TestKit.due("again(20, 32748)", x.again(20, 32748), 32768);
    }

    /** Promise 5. */
    private static void changePutsUpon() {
        RowPacker x = new RowPacker();
        x.feed(0xF0000000, 0, 0, 0, 0x000000AA);
        TestKit.due("change(0, 0x3C)", x.change(0, 0x3C), 0xCC);
        TestKit.due("change(0, 0)", x.change(0, 0), 0xCC);
        TestKit.due("change(0, 255)", x.change(0, 255), 0x33);
        TestKit.due("change(19, 255)", x.change(19, 255), 0x55);
        TestKit.due("its neighbour", x.change(18, 0), 0);
        TestKit.dueThrowWithoutChange(x, "change(20, 0)", INDEX, () -> x.change(20, 0));
        TestKit.dueThrowWithoutChange(x, "change(-1, 0)", INDEX, () -> x.change(-1, 0));
        TestKit.dueThrowWithoutChange(x, "change(20, 256)", INDEX, () -> x.change(20, 256));
        TestKit.dueThrowWithoutChange(x, "change(-1, -1)", INDEX, () -> x.change(-1, -1));
        TestKit.dueThrowWithoutChange(x, "change(0, 256)", ARGUMENT, () -> x.change(0, 256));
        TestKit.dueThrowWithoutChange(x, "change(0, -1)", ARGUMENT, () -> x.change(0, -1));
    }

    /** Promises 10 and 11. */
    private static void outAndSize() {
        RowPacker x = new RowPacker();
        byte[] plain = new Bits().plain(1, 7, 255, 128).row();
        TestKit.load(x, plain);
        TestKit.due("unpack", x.unpack(RowPacker.BARE), 3);
        TestKit.due("size", x.size(), 3);
        TestKit.due("out(0)", x.out(0), 7);
        TestKit.due("out(1)", x.out(1), 255);
        TestKit.due("out(2)", x.out(2), 128);
        TestKit.dueThrowWithoutChange(x, "out(3)", INDEX, () -> x.out(3));
        TestKit.dueThrowWithoutChange(x, "out(-1)", INDEX, () -> x.out(-1));
        TestKit.dueThrowWithoutChange(x, "out(greatest)", INDEX, () -> x.out(Integer.MAX_VALUE));
        x.end(0);
        x.feed(0, 0, 0, 0, 0);
        TestKit.due("size, the TAPE being another", x.size(), 3);
        TestKit.due("out(1), the TAPE being another", x.out(1), 255);
        x.end(1);
        TestKit.due("unpack of a fault", x.unpack(RowPacker.BARE), RowPacker.NONE);
        TestKit.due("size with a fault", x.size(), 0);
        TestKit.dueThrow("out(0) with a fault", INDEX, () -> x.out(0));
    }

    /** Promise 12. */
    private static void turnTakesOut() {
        RowPacker x = new RowPacker();
        byte[] plain = new Bits().plain(1, 7, 255, 128).row();
        TestKit.load(x, plain);
        x.unpack(RowPacker.BARE);
        TestKit.due("turn", x.turn(), 3);
        TestKit.due("bytes on the TAPE", TestKit.tapeLength(x), 3);
        TestKit.due("byte 1", x.change(1, 0), 255);
        x.change(1, 1);
        TestKit.due("OUT stays", x.out(1), 255);
        TestKit.due("size stays", x.size(), 3);
        TestKit.due("blocks stay", x.blocks(), 1);
        TestKit.due("turn once more", x.turn(), 3);
        TestKit.due("byte 1 comes back", x.change(1, 0), 255);
        x.end(1);
        x.unpack(RowPacker.BARE);
        TestKit.due("turn of an empty OUT", x.turn(), 0);
        TestKit.due("an empty TAPE", TestKit.tapeLength(x), 0);
    }

    private static void turnRefuses() {
        RowPacker x = new RowPacker();
        zeros(x, 32769);
        TestKit.due("32,769 bytes", x.unpack(RowPacker.BARE), 32769);
        TestKit.dueThrowWithoutChange(x, "turn of 32,769 bytes", STATE, () -> x.turn());
        zeros(x, 32768);
        TestKit.due("32,768 bytes", x.unpack(RowPacker.BARE), 32768);
        TestKit.due("turn of 32,768 bytes", x.turn(), 32768);
        TestKit.due("last byte", x.change(32767, 0), 0);
    }

    /** Lays a packed row of so many zeros on the TAPE, whole stretches of 256 and bytes. */
    private static void zeros(RowPacker x, int many) {
        Bits bits = new Bits().head(1, 1).letter(0);
        int left = many - 1;
        while (left >= 258) {
            bits.letter(285).distance(0);
            left -= 258;
        }
        while (left > 0) {
            bits.letter(0);
            left--;
        }
        TestKit.load(x, bits.letter(256).row());
    }

    /** 1 + 256 * 255 + 240 is 65521: a is 0 then, not 65521. */
    private static void sumAtTheModulus() {
        RowPacker x = new RowPacker();
        byte[] bytes = new byte[257];
        java.util.Arrays.fill(bytes, (byte) 255);
        bytes[256] = (byte) 240;
        TestKit.load(x, bytes);
        Adler32 a = new Adler32();
        a.update(bytes);
        TestKit.due("SUM A where a is 0", x.sum(0) & 65535, 0);
        TestKit.due("all of it", x.sum(0), a.getValue());
    }

    /** Promise 13. */
    private static void sumsOfTheTape() {
        RowPacker x = new RowPacker();
        TestKit.load(x, "123456789".getBytes());
        TestKit.due("sum A of 123456789", x.sum(0), 0x091E01DEL);
        TestKit.due("sum B of 123456789", x.sum(1), 0xCBF43926L);
        TestKit.dueThrowWithoutChange(x, "sum(2)", ARGUMENT, () -> x.sum(2));
        TestKit.dueThrowWithoutChange(x, "sum(-1)", ARGUMENT, () -> x.sum(-1));
        for (int many : new int[] {1, 255, 256, 257, 5552, 5553, 32768}) {
            byte[] bytes = new byte[many];
            java.util.Arrays.fill(bytes, (byte) 255);
            x.end(0);
            x.feed(-1, 0, 0, 0, 0);
            x.end(1);
            x.again(1, many - 1);
            Adler32 a = new Adler32();
            a.update(bytes);
            CRC32 b = new CRC32();
            b.update(bytes);
            TestKit.due("sum A of " + many + " bytes 255", x.sum(0), a.getValue());
            TestKit.due("sum B of " + many + " bytes 255", x.sum(1), b.getValue());
        }
    }
}
