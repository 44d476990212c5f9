/** What the tests share: counting wrong answers, laying bytes on a tape, reading OUT. */
final class TestKit {
    private static final int MOST_PRINTED = 40;
    private static int wrong;
    private static String running = "";

    private TestKit() {
    }

    /** A call whose exception is looked at. */
    interface Call {
        void go();
    }

    /** The name of the test that runs now: it stands before each line that is printed. */
    static void begin(String name) {
        running = name + ": ";
    }

    static void due(String what, long got, long want) {
        if (got != want) {
            tellWrong(what + " answered " + got + ", due is " + want);
        }
    }

    static void dueThrow(String what, Class<? extends RuntimeException> want, Call call) {
        try {
            call.go();
        } catch (RuntimeException thrown) {
            if (thrown.getClass() != want) {
                tellWrong(what + " threw " + thrown + ", due is " + want.getSimpleName());
            }
            return;
        }
        tellWrong(what + " threw nothing, due is " + want.getSimpleName());
    }

    /** The call throws, and no question that can be asked of the object is answered otherwise behind it. */
    static void dueThrowWithoutChange(RowPacker x, String what, Class<? extends RuntimeException> want, Call call) {
        String before = stateOf(x);
        dueThrow(what, want, call);
        dueRow(what + " changed the object", stateOf(x).getBytes(), before.getBytes());
    }

    static void dueRow(String what, byte[] got, byte[] want) {
        int same = 0;
        while (same < got.length && same < want.length && got[same] == want[same]) {
            same++;
        }
        if (same < got.length || same < want.length) {
            tellWrong(what + ": " + got.length + " bytes, due are " + want.length + "; they part at byte " + same);
        }
    }

    static void tellWrong(String line) {
        wrong++;
        if (wrong <= MOST_PRINTED) {
            System.out.println(running + line);
        }
    }

    static void finish() {
        if (wrong != 0) {
            System.out.println(wrong + " answers are not as due");
            System.exit(1);
        }
    }

    /** A TAPE that unpacks to a fault at this bit, so many blocks being read to their end before. */
    static RowPacker dueFault(String what, byte[] tape, int wrapper, int fault, int place, int blocks) {
        RowPacker x = loaded(tape);
        due(what + ": unpack", x.unpack(wrapper), RowPacker.NONE);
        due(what + ": fault", x.fault(), fault);
        due(what + ": place", x.place(), place);
        due(what + ": blocks", x.blocks(), blocks);
        due(what + ": size", x.size(), 0);
        dueThrow(what + ": out(0)", IndexOutOfBoundsException.class, () -> x.out(0));
        dueThrow(what + ": block", IndexOutOfBoundsException.class, () -> x.block(blocks, 0));
        return x;
    }

    static byte[] row(int... values) {
        byte[] row = new byte[values.length];
        for (int i = 0; i < row.length; i++) {
            row[i] = (byte) values[i];
        }
        return row;
    }

    static byte[] filled(int many, int value) {
        byte[] row = new byte[many];
        java.util.Arrays.fill(row, (byte) value);
        return row;
    }

    static byte[] join(byte[]... parts) {
        int many = 0;
        for (byte[] part : parts) {
            many += part.length;
        }
        byte[] all = new byte[many];
        int at = 0;
        for (byte[] part : parts) {
            System.arraycopy(part, 0, all, at, part.length);
            at += part.length;
        }
        return all;
    }

    /** Lays bytes on the TAPE; a large row takes more than 512 calls, which this class does not count. */
    static void load(RowPacker x, byte[] bytes) {
        x.end(0);
        int length = 0;
        for (int i = 0; i < bytes.length; i += 20) {
            if (i + 20 > 32768) {
                length = loadLast(x, bytes, i);
                break;
            }
            length = x.feed(four(bytes, i), four(bytes, i + 4), four(bytes, i + 8), four(bytes, i + 12),
                four(bytes, i + 16));
        }
        if (length > bytes.length) {
            x.end(bytes.length);
        }
    }

    /** feed() has no room for the last bytes of a full TAPE: they grow out of the first one. */
    private static int loadLast(RowPacker x, byte[] bytes, int from) {
        int length = x.again(1, bytes.length - from);
        for (int i = from; i < bytes.length; i++) {
            x.change(i, (bytes[from - 1] ^ bytes[i]) & 255);
        }
        return length;
    }

    private static int four(byte[] bytes, int from) {
        int number = 0;
        for (int i = from; i < from + 4; i++) {
            number = number << 8 | (i < bytes.length ? bytes[i] & 255 : 0);
        }
        return number;
    }

    /** The TAPE, byte by byte, as change(i, 0) tells it. */
    static byte[] tapeOf(RowPacker x) {
        byte[] bytes = new byte[tapeLength(x)];
        for (int i = 0; i < bytes.length; i++) {
            bytes[i] = (byte) x.change(i, 0);
        }
        return bytes;
    }

    static RowPacker loaded(byte[] tape) {
        RowPacker x = new RowPacker();
        load(x, tape);
        return x;
    }

    static byte[] outOf(RowPacker x) {
        byte[] bytes = new byte[x.size()];
        for (int i = 0; i < bytes.length; i++) {
            bytes[i] = (byte) x.out(i);
        }
        return bytes;
    }

    private static String stateOf(RowPacker x) {
        StringBuilder text = new StringBuilder();
        text.append(tapeLength(x)).append(' ').append(x.sum(0)).append(' ').append(x.sum(1)).append(' ');
        text.append(x.fault()).append(' ').append(x.place()).append(' ').append(x.size()).append(' ');
        text.append(x.blocks()).append(' ').append(x.stretches()).append(' ');
        text.append(java.util.Arrays.hashCode(outOf(x))).append(' ');
        for (int i = 0; i < x.blocks() && i < 64; i++) {
            for (int what = 0; what < 4; what++) {
                text.append(x.block(i, what)).append(';');
            }
        }
        return text.toString();
    }

    /** An empty TAPE has no byte to go back to. */
    static int tapeLength(RowPacker x) {
        try {
            return x.again(1, 0);
        } catch (IllegalArgumentException empty) {
            return 0;
        }
    }
}
