import java.util.Arrays;

/** Packs rows of bytes and unpacks packed ones; the document's numbered promises say how. */
public final class RowPacker {
    public static final int NONE = -1;
    public static final int BARE = 0, SHORT = 1, LONG = 2;

    private static final int MOST_ON_TAPE = 32768;
    private static final int MOST_UNPACKED = 65536;
    private static final int MOST_BITS = 8 * MOST_ON_TAPE;
    private static final int TYPED_AT_ONCE = 20;

    private static final int LETTERS = 286;
    private static final int DISTANCES = 30;
    private static final int LENGTHS = 19;
    private static final int END_OF_BLOCK = 256;
    private static final int FIRST_LENGTH = 257;
    private static final int LONGEST_CODE = 15;
    private static final int LEAST_STRETCH = 3;
    private static final int MOST_STRETCH = 258;
    private static final int[] ORDER_OF_LENGTHS =
        {16, 17, 18, 0, 8, 7, 9, 6, 10, 5, 11, 4, 12, 3, 13, 2, 14, 1, 15};

    private final Row tape;
    private final Row result;
    private final Report report;
    private final Sums sums;
    private final Packer packer;
    private final Unpacker unpacker;

    public RowPacker() {
        tape = new Row(MOST_ON_TAPE);
        result = new Row(MOST_UNPACKED);
        report = new Report();
        sums = new Sums();
        packer = new Packer(tape, result, report, sums);
        unpacker = new Unpacker(tape, result, report, sums);
    }

    public int feed(int a, int b, int c, int d, int e) throws IllegalStateException {
        if (tape.many > MOST_ON_TAPE - TYPED_AT_ONCE) {
            throw new IllegalStateException();
        }
        tape.addFour(a);
        tape.addFour(b);
        tape.addFour(c);
        tape.addFour(d);
        tape.addFour(e);
        return tape.many;
    }

    public void end(int n) throws IllegalArgumentException {
        if (n < 0 || n > tape.many) {
            throw new IllegalArgumentException();
        }
        tape.many = n;
    }

    public int again(int back, int many) throws IllegalArgumentException, IllegalStateException {
        if (many < 0 || back < 1 || back > tape.many) {
            throw new IllegalArgumentException();
        }
        if (many > MOST_ON_TAPE - tape.many) {
            throw new IllegalStateException();
        }
        tape.repeat(back, many);
        return tape.many;
    }

    public int change(int i, int by) throws IndexOutOfBoundsException, IllegalArgumentException {
        if (i < 0 || i >= tape.many) {
            throw new IndexOutOfBoundsException();
        }
        if (by < 0 || by > 255) {
            throw new IllegalArgumentException();
        }
        tape.cells[i] = (byte) (tape.cells[i] ^ by);
        return tape.byteAt(i);
    }

    public int pack(int wrapper) throws IllegalArgumentException {
        if (wrapper < BARE || wrapper > LONG) {
            throw new IllegalArgumentException();
        }
        packer.packTape(wrapper);
        return result.many;
    }

    public int unpack(int wrapper) throws IllegalArgumentException {
        if (wrapper < BARE || wrapper > LONG) {
            throw new IllegalArgumentException();
        }
        unpacker.unpackTape(wrapper);
        return report.fault == 0 ? result.many : NONE;
    }

    public int fault() {
        return report.fault;
    }

    public int place() {
        return report.place;
    }

    public int size() {
        return result.many;
    }

    public int out(int i) throws IndexOutOfBoundsException {
        if (i < 0 || i >= result.many) {
            throw new IndexOutOfBoundsException();
        }
        return result.byteAt(i);
    }

    public int turn() throws IllegalStateException {
        if (result.many > MOST_ON_TAPE) {
            throw new IllegalStateException();
        }
        System.arraycopy(result.cells, 0, tape.cells, 0, result.many);
        tape.many = result.many;
        return tape.many;
    }

    public long sum(int which) throws IllegalArgumentException {
        if (which < 0 || which > 1) {
            throw new IllegalArgumentException();
        }
        return which == 0 ? sums.sumA(tape, 0, tape.many) : sums.sumB(tape, 0, tape.many);
    }

    public int blocks() {
        return report.blocks;
    }

    public int block(int i, int what) throws IndexOutOfBoundsException, IllegalArgumentException {
        if (i < 0 || i >= report.blocks || i >= Report.MOST_TOLD) {
            throw new IndexOutOfBoundsException();
        }
        if (what < 0 || what >= Report.TOLD_OF_EACH) {
            throw new IllegalArgumentException();
        }
        return report.told[Report.TOLD_OF_EACH * i + what];
    }

    public int stretches() {
        return report.stretches;
    }

    /** How many bits of number follow the letter FIRST_LENGTH + i. */
    private static int lengthBits(int i) {
        return i < 8 || i == 28 ? 0 : i / 4 - 1;
    }

    /** The least length that the letter FIRST_LENGTH + i tells. */
    private static int lengthBase(int i) {
        if (i < 8) {
            return 3 + i;
        }
        return i == 28 ? MOST_STRETCH : ((4 + i % 4) << lengthBits(i)) + 3;
    }

    /** Which letter behind FIRST_LENGTH tells a length: 258 has one of its own. */
    private static int lengthSymbol(int length) {
        if (length == MOST_STRETCH) {
            return 28;
        }
        int rest = length - 3;
        int bits = bitsAbove(rest, 8);
        return 4 * bits + (rest >> bits);
    }

    private static int distanceBits(int j) {
        return j < 4 ? 0 : j / 2 - 1;
    }

    private static int distanceBase(int j) {
        return j < 4 ? 1 + j : ((2 + j % 2) << distanceBits(j)) + 1;
    }

    private static int distanceSymbol(int distance) {
        int rest = distance - 1;
        int bits = bitsAbove(rest, 4);
        return 2 * bits + (rest >> bits);
    }

    /** How many low bits of a number must go until it is below a bound. */
    private static int bitsAbove(int number, int bound) {
        int bits = 0;
        while (bits < 16 && (number >> bits) >= bound) {
            bits++;
        }
        return bits;
    }

    /** The length of a letter (0 .. 287) in the code of KIND 1. */
    private static int fixedLength(int letter) {
        if (letter < 144) {
            return 8;
        }
        if (letter < 256) {
            return 9;
        }
        return letter < 280 ? 7 : 8;
    }

    /** A row of bytes with room for so many. */
    private static final class Row {
        final byte[] cells;
        int many;

        Row(int room) {
            cells = new byte[room];
        }

        int byteAt(int i) {
            return cells[i] & 255;
        }

        void add(int value) {
            if (many < cells.length) {
                cells[many] = (byte) value;
                many++;
            }
        }

        void addFour(int number) {
            for (int shift = 24; shift >= 0; shift -= 8) {
                add(number >>> shift);
            }
        }

        /** The caller has looked at the room and at back; one byte at a time, since back may be less than times. */
        void repeat(int back, int times) {
            int stop = many + times;
            for (int i = many; i < stop; i++) {
                cells[i] = cells[i - back];
            }
            many = stop;
        }
    }

    /** What the latest packing or unpacking told beside its bytes. */
    private static final class Report {
        static final int MOST_TOLD = 64;
        static final int TOLD_OF_EACH = 4;

        final int[] told = new int[MOST_TOLD * TOLD_OF_EACH];
        int fault;
        int place = NONE;
        int blocks;
        int stretches;

        void clear() {
            fault = 0;
            place = NONE;
            blocks = 0;
            stretches = 0;
        }

        void addBlock(int kind, int firstBit, int bits, int bytes) {
            if (blocks < MOST_TOLD) {
                int from = TOLD_OF_EACH * blocks;
                told[from] = kind;
                told[from + 1] = firstBit;
                told[from + 2] = bits;
                told[from + 3] = bytes;
            }
            blocks++;
        }
    }

    /** SUM A and SUM B of parts of a row. */
    private static final class Sums {
        private static final int MODULUS = 65521;
        private static final int PUT_UPON = 0xEDB88320;

        /** What eight steps of SUM B make of a byte. */
        private final int[] steps = new int[256];

        Sums() {
            for (int i = 0; i < 256; i++) {
                int bits = i;
                for (int step = 0; step < 8; step++) {
                    bits = (bits & 1) == 1 ? (bits >>> 1) ^ PUT_UPON : bits >>> 1;
                }
                steps[i] = bits;
            }
        }

        long sumA(Row row, int from, int to) {
            int a = 1;
            int b = 0;
            for (int i = from; i < to; i++) {
                a += row.byteAt(i);
                if (a >= MODULUS) {
                    a -= MODULUS;
                }
                b += a;
                if (b >= MODULUS) {
                    b -= MODULUS;
                }
            }
            return 65536L * b + a;
        }

        long sumB(Row row, int from, int to) {
            int bits = ~0;
            for (int i = from; i < to; i++) {
                bits = (bits >>> 8) ^ steps[(bits ^ row.byteAt(i)) & 255];
            }
            return ~bits & 0xFFFFFFFFL;
        }
    }

    /** A code by lengths, laid out for reading it bit by bit. */
    private static final class ReadCode {
        /** How many symbols have a code of so many bits. */
        final int[] counts = new int[LONGEST_CODE + 1];
        /** The symbols that have a code, in the order of their codes. */
        final int[] symbols = new int[288];
        int coded;

        private final int[] starts = new int[LONGEST_CODE + 2];

        void make(int[] lengths, int from, int many) {
            Arrays.fill(counts, 0);
            for (int i = 0; i < many; i++) {
                counts[lengths[from + i]]++;
            }
            coded = many - counts[0];
            counts[0] = 0;
            starts[1] = 0;
            for (int length = 1; length <= LONGEST_CODE; length++) {
                starts[length + 1] = starts[length] + counts[length];
            }
            for (int i = 0; i < many; i++) {
                int length = lengths[from + i];
                if (length > 0) {
                    symbols[starts[length]] = i;
                    starts[length]++;
                }
            }
        }

        boolean isFull() {
            int sum = 0;
            for (int length = 1; length <= LONGEST_CODE; length++) {
                sum += counts[length] << (LONGEST_CODE - length);
            }
            return sum == 1 << LONGEST_CODE;
        }

        boolean servesDistances() {
            return coded == 0 || coded == 1 && counts[1] == 1 || isFull();
        }
    }

    /** Reads the TAPE and writes what it unpacks to; a method that answers false or NONE has told a fault. */
    private static final class Unpacker {
        private static final int EARLY_END = 1, KIND_3 = 2, NOT_THE_REST = 3, TOO_MANY_SYMBOLS = 4, BAD_CODE = 5,
            NOTHING_BEFORE = 6, TOO_MANY_LENGTHS = 7, BAD_SYMBOL = 8, TOO_FAR = 9, TOO_MANY_BYTES = 10,
            BEHIND_THE_END = 11, BAD_HEAD = 12, BAD_SUM = 13, BAD_COUNT = 14;

        private final Row tape;
        private final Row result;
        private final Report report;
        private final Sums sums;
        private final ReadCode fixedLetters = new ReadCode();
        private final ReadCode fixedDistances = new ReadCode();
        private final ReadCode lengthsCode = new ReadCode();
        private final ReadCode letters = new ReadCode();
        private final ReadCode distances = new ReadCode();
        private final int[] lengths = new int[LETTERS + DISTANCES];
        private int at;
        private int endOfTape;
        private int memberBegin;

        Unpacker(Row tape, Row result, Report report, Sums sums) {
            this.tape = tape;
            this.result = result;
            this.report = report;
            this.sums = sums;
            int[] fixed = new int[288];
            for (int letter = 0; letter < 288; letter++) {
                fixed[letter] = fixedLength(letter);
            }
            fixedLetters.make(fixed, 0, 288);
            Arrays.fill(fixed, 5);
            fixedDistances.make(fixed, 0, 32);
        }

        void unpackTape(int wrapper) {
            report.clear();
            result.many = 0;
            at = 0;
            endOfTape = 8 * tape.many;
            boolean more = true;
            for (int member = 0; more && member < MOST_ON_TAPE; member++) {
                memberBegin = result.many;
                more = readHead(wrapper) && readBlocks() && readTail(wrapper) && wrapper == LONG && at < endOfTape;
            }
            if (report.fault == 0 && at < endOfTape) {
                fail(BEHIND_THE_END, at);
            }
            if (report.fault != 0) {
                result.many = 0;
            }
        }

        private boolean fail(int fault, int place) {
            report.fault = fault;
            report.place = place;
            return false;
        }

        private boolean readHead(int wrapper) {
            if (wrapper == BARE) {
                return true;
            }
            return wrapper == SHORT ? readShortHead() : readLongHead();
        }

        private boolean readShortHead() {
            int first = readNumber(8);
            if (first == NONE) {
                return false;
            }
            if ((first & 15) != 8 || first >> 4 > 7) {
                return fail(BAD_HEAD, at - 8);
            }
            int second = readNumber(8);
            if (second == NONE) {
                return false;
            }
            if ((second & 32) != 0 || (256 * first + second) % 31 != 0) {
                return fail(BAD_HEAD, at - 8);
            }
            return true;
        }

        private boolean readLongHead() {
            int begin = at / 8;
            if (!readByteThatIs(31) || !readByteThatIs(139) || !readByteThatIs(8)) {
                return false;
            }
            int marks = readNumber(8);
            if (marks == NONE) {
                return false;
            }
            if (marks >> 5 != 0) {
                return fail(BAD_HEAD, at - 8);
            }
            if (!skipBytes(6)) {
                return false;
            }
            if ((marks & 4) != 0) {
                int n = readNumber(16);
                if (n == NONE || !skipBytes(n)) {
                    return false;
                }
            }
            if ((marks & 8) != 0 && !skipThroughZero() || (marks & 16) != 0 && !skipThroughZero()) {
                return false;
            }
            return (marks & 2) == 0 || readSumOfHead(begin);
        }

        private boolean readSumOfHead(int begin) {
            long due = sums.sumB(tape, begin, at / 8) & 65535;
            int told = readNumber(16);
            if (told == NONE) {
                return false;
            }
            return told == due || fail(BAD_SUM, at - 16);
        }

        private boolean readTail(int wrapper) {
            if (wrapper == BARE) {
                return true;
            }
            if (wrapper == SHORT) {
                return readFourThatAre(sums.sumA(result, 0, result.many), true, BAD_SUM);
            }
            return readFourThatAre(sums.sumB(result, memberBegin, result.many), false, BAD_SUM)
                && readFourThatAre(result.many - memberBegin, false, BAD_COUNT);
        }

        private boolean readFourThatAre(long due, boolean highestFirst, int otherwise) {
            if (endOfTape - at < 32) {
                return fail(EARLY_END, endOfTape);
            }
            long told = 0;
            for (int i = 0; i < 4; i++) {
                int shift = highestFirst ? 24 - 8 * i : 8 * i;
                told |= (long) tape.byteAt(at / 8 + i) << shift;
            }
            if (told != due) {
                return fail(otherwise, at);
            }
            at += 32;
            return true;
        }

        private boolean readByteThatIs(int due) {
            int told = readNumber(8);
            if (told == NONE) {
                return false;
            }
            return told == due || fail(BAD_HEAD, at - 8);
        }

        private boolean skipBytes(int n) {
            if (endOfTape - at < 8 * n) {
                return fail(EARLY_END, endOfTape);
            }
            at += 8 * n;
            return true;
        }

        private boolean skipThroughZero() {
            for (int i = at / 8; i < tape.many; i++) {
                if (tape.byteAt(i) == 0) {
                    at = 8 * (i + 1);
                    return true;
                }
            }
            return fail(EARLY_END, endOfTape);
        }

        private void goToNextByte() {
            at = (at + 7) / 8 * 8;
        }

        private int readNumber(int bits) {
            if (endOfTape - at < bits) {
                fail(EARLY_END, endOfTape);
                return NONE;
            }
            int number = 0;
            for (int i = 0; i < bits; i++) {
                number |= ((tape.cells[at >> 3] >> (at & 7)) & 1) << i;
                at++;
            }
            return number;
        }

        private int readSymbol(ReadCode code) {
            int begin = at;
            int word = 0;
            int firstWord = 0;
            int before = 0;
            // A code of fewer than two symbols is not full: its first bit tells all.
            int longest = code.coded < 2 ? 1 : LONGEST_CODE;
            for (int length = 1; length <= longest; length++) {
                if (at >= endOfTape) {
                    fail(EARLY_END, endOfTape);
                    return NONE;
                }
                word = 2 * word + ((tape.cells[at >> 3] >> (at & 7)) & 1);
                at++;
                int many = code.counts[length];
                if (word - firstWord < many) {
                    return code.symbols[before + word - firstWord];
                }
                before += many;
                firstWord = 2 * (firstWord + many);
            }
            fail(BAD_SYMBOL, begin);
            return NONE;
        }

        private boolean readBlocks() {
            boolean last = false;
            for (int i = 0; !last && i < MOST_BITS; i++) {
                int firstBit = at;
                int bytesBefore = result.many;
                int mark = readNumber(1);
                int kind = mark == NONE ? NONE : readNumber(2);
                if (kind == NONE) {
                    return false;
                }
                if (kind == 3) {
                    return fail(KIND_3, at - 2);
                }
                boolean whole = kind == 0 ? readPlain()
                    : kind == 1 ? readSymbols(fixedLetters, fixedDistances)
                    : readCodes() && readSymbols(letters, distances);
                if (!whole) {
                    return false;
                }
                report.addBlock(kind, firstBit, at - firstBit, result.many - bytesBefore);
                last = mark == 1;
            }
            goToNextByte();
            return true;
        }

        private boolean readPlain() {
            goToNextByte();
            int n = readNumber(16);
            int rest = n == NONE ? NONE : readNumber(16);
            if (rest == NONE) {
                return false;
            }
            if (rest != 65535 - n) {
                return fail(NOT_THE_REST, at - 16);
            }
            if (n > MOST_UNPACKED - result.many) {
                return fail(TOO_MANY_BYTES, at - 32);
            }
            if (endOfTape - at < 8 * n) {
                return fail(EARLY_END, endOfTape);
            }
            System.arraycopy(tape.cells, at / 8, result.cells, result.many, n);
            result.many += n;
            at += 8 * n;
            return true;
        }

        private boolean readCodes() {
            int moreLetters = readNumber(5);
            if (moreLetters == NONE) {
                return false;
            }
            int manyLetters = 257 + moreLetters;
            if (manyLetters > LETTERS) {
                return fail(TOO_MANY_SYMBOLS, at - 5);
            }
            int moreDistances = readNumber(5);
            if (moreDistances == NONE) {
                return false;
            }
            int manyDistances = 1 + moreDistances;
            if (manyDistances > DISTANCES) {
                return fail(TOO_MANY_SYMBOLS, at - 5);
            }
            if (!readCodeOfLengths() || !readLengths(manyLetters + manyDistances)) {
                return false;
            }
            letters.make(lengths, 0, manyLetters);
            distances.make(lengths, manyLetters, manyDistances);
            if (!letters.isFull() || lengths[END_OF_BLOCK] == 0 || !distances.servesDistances()) {
                return fail(BAD_CODE, at);
            }
            return true;
        }

        private boolean readCodeOfLengths() {
            int more = readNumber(4);
            if (more == NONE) {
                return false;
            }
            Arrays.fill(lengths, 0, LENGTHS, 0);
            for (int i = 0; i < 4 + more; i++) {
                int length = readNumber(3);
                if (length == NONE) {
                    return false;
                }
                lengths[ORDER_OF_LENGTHS[i]] = length;
            }
            lengthsCode.make(lengths, 0, LENGTHS);
            return lengthsCode.isFull() || fail(BAD_CODE, at);
        }

        private boolean readLengths(int due) {
            int many = 0;
            for (int i = 0; many < due && i < LETTERS + DISTANCES; i++) {
                int firstBit = at;
                int symbol = readSymbol(lengthsCode);
                if (symbol == NONE) {
                    return false;
                }
                if (symbol < 16) {
                    lengths[many] = symbol;
                    many++;
                    continue;
                }
                if (symbol == 16 && many == 0) {
                    return fail(NOTHING_BEFORE, firstBit);
                }
                int number = readNumber(symbol == 16 ? 2 : symbol == 17 ? 3 : 7);
                if (number == NONE) {
                    return false;
                }
                int times = number + (symbol == 18 ? 11 : 3);
                if (times > due - many) {
                    return fail(TOO_MANY_LENGTHS, firstBit);
                }
                Arrays.fill(lengths, many, many + times, symbol == 16 ? lengths[many - 1] : 0);
                many += times;
            }
            return true;
        }

        private boolean readSymbols(ReadCode letterCode, ReadCode distanceCode) {
            for (int i = 0; i < MOST_BITS; i++) {
                int firstBit = at;
                int letter = readSymbol(letterCode);
                if (letter == NONE) {
                    return false;
                }
                if (letter == END_OF_BLOCK) {
                    return true;
                }
                if (letter >= FIRST_LENGTH) {
                    if (!readStretch(letter, firstBit, distanceCode)) {
                        return false;
                    }
                } else if (result.many == MOST_UNPACKED) {
                    return fail(TOO_MANY_BYTES, firstBit);
                } else {
                    result.add(letter);
                }
            }
            // Never reached: each symbol takes a bit or more, and the TAPE has no more bits.
            return fail(EARLY_END, endOfTape);
        }

        private boolean readStretch(int letter, int firstBit, ReadCode distanceCode) {
            if (letter >= LETTERS) {
                return fail(BAD_SYMBOL, firstBit);
            }
            int longer = readNumber(lengthBits(letter - FIRST_LENGTH));
            if (longer == NONE) {
                return false;
            }
            int distanceBit = at;
            int symbol = readSymbol(distanceCode);
            if (symbol == NONE) {
                return false;
            }
            if (symbol >= DISTANCES) {
                return fail(BAD_SYMBOL, distanceBit);
            }
            int farther = readNumber(distanceBits(symbol));
            if (farther == NONE) {
                return false;
            }
            int length = lengthBase(letter - FIRST_LENGTH) + longer;
            int distance = distanceBase(symbol) + farther;
            if (distance > result.many - memberBegin) {
                return fail(TOO_FAR, distanceBit);
            }
            if (length > MOST_UNPACKED - result.many) {
                return fail(TOO_MANY_BYTES, firstBit);
            }
            result.repeat(distance, length);
            report.stretches++;
            return true;
        }
    }

    /** Writes bits to the end of a row. */
    private static final class BitWriter {
        private final Row row;
        private int held;
        private int heldBits;

        BitWriter(Row row) {
            this.row = row;
        }

        void restart() {
            row.many = 0;
            held = 0;
            heldBits = 0;
        }

        int bitsWritten() {
            return 8 * row.many + heldBits;
        }

        /** A number of 16 bits at most. */
        void writeNumber(int number, int bits) {
            held |= number << heldBits;
            heldBits += bits;
            for (int i = 0; i < 3 && heldBits >= 8; i++) {
                row.add(held);
                held >>>= 8;
                heldBits -= 8;
            }
        }

        void fillByte() {
            writeNumber(0, -heldBits & 7);
        }

        void writeFour(long number, boolean highestFirst) {
            for (int i = 0; i < 4; i++) {
                int shift = highestFirst ? 24 - 8 * i : 8 * i;
                writeNumber((int) (number >> shift) & 255, 8);
            }
        }

        void writeSymbol(WriteCode code, int symbol) {
            writeNumber(code.words[symbol], code.lengths[symbol]);
        }
    }

    /** A code by lengths, laid out for writing its symbols. */
    private static final class WriteCode {
        final int[] lengths;
        /** The codes, turned round: they are written as numbers, whose lowest bit is first. */
        final int[] words;

        private final int[] next = new int[LONGEST_CODE + 2];

        WriteCode(int symbols) {
            lengths = new int[symbols];
            words = new int[symbols];
        }

        void makeWords() {
            Arrays.fill(next, 0);
            for (int i = 0; i < lengths.length; i++) {
                if (lengths[i] > 0) {
                    next[lengths[i] + 1]++;
                }
            }
            for (int length = 1; length <= LONGEST_CODE; length++) {
                next[length] = 2 * (next[length - 1] + next[length]);
            }
            for (int i = 0; i < lengths.length; i++) {
                words[i] = turnedRound(next[lengths[i]], lengths[i]);
                next[lengths[i]]++;
            }
        }

        private static int turnedRound(int word, int length) {
            int turned = 0;
            for (int i = 0; i < length; i++) {
                turned = 2 * turned + ((word >> i) & 1);
            }
            return turned;
        }

        int bitsFor(int[] weights) {
            int bits = 0;
            for (int i = 0; i < weights.length && i < lengths.length; i++) {
                bits += weights[i] * lengths[i];
            }
            return bits;
        }

        /** How many symbols there are up to the last one with a code. */
        int manyWithCode() {
            int many = lengths.length;
            while (many > 0 && lengths[many - 1] == 0) {
                many--;
            }
            return many;
        }
    }

    /** Finds the stretch of a place of the TAPE; places are asked for in rising order. */
    private static final class Finder {
        private static final int FARTHEST = 4096;
        private static final int KEY_BITS = 12;
        private static final int KEYS = 1 << KEY_BITS;

        /** 0 if there is no stretch. */
        int length;
        int distance;

        private final Row tape;
        /** For each key the latest place that bears it, and for each place the one before it of the same key. */
        private final int[] latest = new int[KEYS];
        private final int[] before = new int[MOST_ON_TAPE];
        private int entered;
        private int found;

        Finder(Row tape) {
            this.tape = tape;
        }

        void restart() {
            Arrays.fill(latest, NONE);
            entered = 0;
            found = NONE;
        }

        void find(int p) {
            if (p == found) {
                return;
            }
            found = p;
            length = 0;
            enterPlacesBefore(p);
            int most = Math.min(MOST_STRETCH, tape.many - p);
            if (most >= LEAST_STRETCH) {
                search(p, most);
            }
        }

        private void enterPlacesBefore(int p) {
            while (entered < p && entered + LEAST_STRETCH <= tape.many) {
                int key = keyAt(entered);
                before[entered] = latest[key];
                latest[key] = entered;
                entered++;
            }
        }

        private int keyAt(int p) {
            byte[] cells = tape.cells;
            int three = cells[p] & 255 | (cells[p + 1] & 255) << 8 | (cells[p + 2] & 255) << 16;
            return (three * 0x9E3779B1) >>> (32 - KEY_BITS);
        }

        /** The nearest places come first, so that only a longer stretch takes the place of one that was found. */
        private void search(int p, int most) {
            byte[] cells = tape.cells;
            int lowest = Math.max(0, p - FARTHEST);
            int best = LEAST_STRETCH - 1;
            int q = latest[keyAt(p)];
            for (int i = 0; i < FARTHEST && q >= lowest && best < most; i++) {
                if (cells[q + best] == cells[p + best]) {
                    int same = sameBytes(q, p, most);
                    if (same > best) {
                        best = same;
                        length = same;
                        distance = p - q;
                    }
                }
                q = before[q];
            }
        }

        private int sameBytes(int q, int p, int most) {
            byte[] cells = tape.cells;
            int same = 0;
            while (same < most && cells[q + same] == cells[p + same]) {
                same++;
            }
            return same;
        }
    }

    /** Makes LENGTHS BY WEIGHTS. */
    private static final class Weigher {
        private static final int ROOM = 2 * LETTERS;

        /** The symbols that have a weight, in the order of row 1. */
        private final int[] symbols = new int[LETTERS];
        private final int[] symbolWeights = new int[LETTERS];
        private int many;
        private int[] row = new int[ROOM];
        private int[] rowAfter = new int[ROOM];
        /** Which things of each row are symbols by themselves. */
        private final boolean[] alone = new boolean[LONGEST_CODE * ROOM];

        /** One symbol by itself gets 1 bit; the document asks this of distances. */
        void makeLengths(int[] weights, int longest, int[] lengths) {
            sortSymbols(weights);
            Arrays.fill(lengths, 0);
            if (many == 1) {
                lengths[symbols[0]] = 1;
            }
            if (many < 2) {
                return;
            }
            int size = 0;
            for (int k = 0; k < longest; k++) {
                size = makeRow(k, size / 2);
            }
            countSymbols(longest, lengths);
        }

        private void sortSymbols(int[] weights) {
            many = 0;
            for (int symbol = 0; symbol < weights.length; symbol++) {
                int weight = weights[symbol];
                if (weight > 0) {
                    int i = many;
                    while (i > 0 && symbolWeights[i - 1] > weight) {
                        symbolWeights[i] = symbolWeights[i - 1];
                        symbols[i] = symbols[i - 1];
                        i--;
                    }
                    symbolWeights[i] = weight;
                    symbols[i] = symbol;
                    many++;
                }
            }
        }

        /** Makes the next row of the symbols and of so many pairs of the one before: how many things it has. */
        private int makeRow(int k, int pairs) {
            int size = many + pairs;
            int symbol = 0;
            int pair = 0;
            for (int i = 0; i < size; i++) {
                int pairWeight = pair < pairs ? row[2 * pair] + row[2 * pair + 1] : 0;
                boolean takesSymbol = pair >= pairs || symbol < many && symbolWeights[symbol] <= pairWeight;
                alone[k * ROOM + i] = takesSymbol;
                if (takesSymbol) {
                    rowAfter[i] = symbolWeights[symbol];
                    symbol++;
                } else {
                    rowAfter[i] = pairWeight;
                    pair++;
                }
            }
            int[] done = row;
            row = rowAfter;
            rowAfter = done;
            return size;
        }

        /** Of each row a first part is taken: the pairs in it are the first part of the row before. */
        private void countSymbols(int longest, int[] lengths) {
            int taken = 2 * many - 2;
            for (int k = longest - 1; k >= 0; k--) {
                int singles = 0;
                for (int i = 0; i < taken; i++) {
                    if (alone[k * ROOM + i]) {
                        lengths[symbols[singles]]++;
                        singles++;
                    }
                }
                taken = 2 * (taken - singles);
            }
        }
    }

    /** The codes of a block of KIND 2, and how they are told. */
    private static final class MadeCodes {
        private static final int LONGEST_OF_LENGTHS = 7;

        final WriteCode letters = new WriteCode(LETTERS);
        final WriteCode distances = new WriteCode(DISTANCES);

        private final WriteCode lengths = new WriteCode(LENGTHS);
        private final Weigher weigher = new Weigher();
        private final int[] row = new int[LETTERS + DISTANCES];
        private final int[] toldSymbols = new int[LETTERS + DISTANCES];
        private final int[] toldNumbers = new int[LETTERS + DISTANCES];
        private final int[] toldWeights = new int[LENGTHS];
        private int told;
        private int manyLetters;
        private int manyDistances;
        private int manyLengths;

        void make(int[] letterWeights, int[] distanceWeights) {
            weigher.makeLengths(letterWeights, LONGEST_CODE, letters.lengths);
            weigher.makeLengths(distanceWeights, LONGEST_CODE, distances.lengths);
            manyLetters = letters.manyWithCode();
            manyDistances = Math.max(1, distances.manyWithCode());
            System.arraycopy(letters.lengths, 0, row, 0, manyLetters);
            System.arraycopy(distances.lengths, 0, row, manyLetters, manyDistances);
            tellRow(manyLetters + manyDistances);
            weighTold();
            weigher.makeLengths(toldWeights, LONGEST_OF_LENGTHS, lengths.lengths);
            manyLengths = LENGTHS;
            while (manyLengths > 4 && lengths.lengths[ORDER_OF_LENGTHS[manyLengths - 1]] == 0) {
                manyLengths--;
            }
        }

        int bitsOfTelling() {
            int bits = 14 + 3 * manyLengths;
            for (int i = 0; i < told; i++) {
                bits += lengths.lengths[toldSymbols[i]] + numberBits(toldSymbols[i]);
            }
            return bits;
        }

        void writeTelling(BitWriter writer) {
            lengths.makeWords();
            writer.writeNumber(manyLetters - 257, 5);
            writer.writeNumber(manyDistances - 1, 5);
            writer.writeNumber(manyLengths - 4, 4);
            for (int i = 0; i < manyLengths; i++) {
                writer.writeNumber(lengths.lengths[ORDER_OF_LENGTHS[i]], 3);
            }
            for (int i = 0; i < told; i++) {
                writer.writeSymbol(lengths, toldSymbols[i]);
                writer.writeNumber(toldNumbers[i], numberBits(toldSymbols[i]));
            }
        }

        private static int numberBits(int symbol) {
            if (symbol < 16) {
                return 0;
            }
            return symbol == 16 ? 2 : symbol == 17 ? 3 : 7;
        }

        private void tellRow(int many) {
            told = 0;
            int begin = 0;
            for (int i = 1; i <= many; i++) {
                if (i == many || row[i] != row[begin]) {
                    tellRun(row[begin], i - begin);
                    begin = i;
                }
            }
        }

        private void tellRun(int length, int times) {
            int left = times;
            if (length != 0) {
                tell(length, 0);
                left--;
            }
            while (left >= 3) {
                if (length != 0) {
                    int some = Math.min(left, 6);
                    tell(16, some - 3);
                    left -= some;
                } else if (left >= 11) {
                    int some = Math.min(left, 138);
                    tell(18, some - 11);
                    left -= some;
                } else {
                    tell(17, left - 3);
                    left = 0;
                }
            }
            for (int i = 0; i < left; i++) {
                tell(length, 0);
            }
        }

        private void tell(int symbol, int number) {
            toldSymbols[told] = symbol;
            toldNumbers[told] = number;
            told++;
        }

        private void weighTold() {
            Arrays.fill(toldWeights, 0);
            int kinds = 0;
            for (int i = 0; i < told; i++) {
                if (toldWeights[toldSymbols[i]] == 0) {
                    kinds++;
                }
                toldWeights[toldSymbols[i]]++;
            }
            if (kinds == 1) {
                toldWeights[toldWeights[0] == 0 ? 0 : 1] = 1;
            }
        }
    }

    /** Packs the TAPE, block by block. */
    private static final class Packer {
        private static final int PIECES = 1024;

        private final Row tape;
        private final Report report;
        private final Sums sums;
        private final Finder finder;
        private final BitWriter writer;
        private final WriteCode fixedLetters = new WriteCode(288);
        private final WriteCode fixedDistances = new WriteCode(32);
        private final MadeCodes made = new MadeCodes();
        /** The lengths of the block's pieces, 0 for a byte; and their distances, or the byte. */
        private final int[] pieceLengths = new int[PIECES];
        private final int[] pieceValues = new int[PIECES];
        private final int[] letterWeights = new int[LETTERS];
        private final int[] distanceWeights = new int[DISTANCES];
        private int pieces;
        /** How many bits the numbers behind lengths and distances of the block take. */
        private int bitsOfNumbers;
        private int blockBegin;
        private int at;

        Packer(Row tape, Row result, Report report, Sums sums) {
            this.tape = tape;
            this.report = report;
            this.sums = sums;
            finder = new Finder(tape);
            writer = new BitWriter(result);
            for (int letter = 0; letter < 288; letter++) {
                fixedLetters.lengths[letter] = fixedLength(letter);
            }
            Arrays.fill(fixedDistances.lengths, 5);
            fixedLetters.makeWords();
            fixedDistances.makeWords();
        }

        void packTape(int wrapper) {
            report.clear();
            writer.restart();
            finder.restart();
            writeHead(wrapper);
            at = 0;
            boolean last = false;
            for (int i = 0; !last && i <= MOST_ON_TAPE; i++) {
                takePieces();
                if (pieces > 0) {
                    made.make(letterWeights, distanceWeights);
                }
                last = at >= tape.many;
                writeBlock(last);
            }
            writer.fillByte();
            writeTail(wrapper);
        }

        private void writeHead(int wrapper) {
            if (wrapper == SHORT) {
                writer.writeNumber(120, 8);
                writer.writeNumber(156, 8);
            }
            if (wrapper == LONG) {
                writer.writeNumber(31, 8);
                writer.writeNumber(139, 8);
                writer.writeNumber(8, 8);
                for (int i = 0; i < 6; i++) {
                    writer.writeNumber(0, 8);
                }
                writer.writeNumber(255, 8);
            }
        }

        private void writeTail(int wrapper) {
            if (wrapper == SHORT) {
                writer.writeFour(sums.sumA(tape, 0, tape.many), true);
            }
            if (wrapper == LONG) {
                writer.writeFour(sums.sumB(tape, 0, tape.many), false);
                writer.writeFour(tape.many, false);
            }
        }

        private void takePieces() {
            blockBegin = at;
            pieces = 0;
            bitsOfNumbers = 0;
            Arrays.fill(letterWeights, 0);
            Arrays.fill(distanceWeights, 0);
            letterWeights[END_OF_BLOCK] = 1;
            while (pieces < PIECES && at < tape.many) {
                takePiece();
                pieces++;
            }
        }

        private void takePiece() {
            finder.find(at);
            int length = finder.length;
            int distance = finder.distance;
            // Nothing is longer than the most: then the next place need not be looked at.
            if (length > 0 && length < MOST_STRETCH) {
                finder.find(at + 1);
                if (finder.length > length) {
                    length = 0;
                }
            }
            if (length > 0) {
                takeStretch(length, distance);
            } else {
                takeByte();
            }
        }

        private void takeByte() {
            int value = tape.byteAt(at);
            pieceLengths[pieces] = 0;
            pieceValues[pieces] = value;
            letterWeights[value]++;
            at++;
        }

        private void takeStretch(int length, int distance) {
            int i = lengthSymbol(length);
            int j = distanceSymbol(distance);
            pieceLengths[pieces] = length;
            pieceValues[pieces] = distance;
            letterWeights[FIRST_LENGTH + i]++;
            distanceWeights[j]++;
            bitsOfNumbers += lengthBits(i) + distanceBits(j);
            at += length;
            report.stretches++;
        }

        private void writeBlock(boolean last) {
            int firstBit = writer.bitsWritten();
            int kind = fewestBits(firstBit);
            writer.writeNumber(last ? 1 : 0, 1);
            writer.writeNumber(kind, 2);
            if (kind == 0) {
                writePlain();
            } else if (kind == 1) {
                writePieces(fixedLetters, fixedDistances);
            } else {
                made.letters.makeWords();
                made.distances.makeWords();
                made.writeTelling(writer);
                writePieces(made.letters, made.distances);
            }
            report.addBlock(kind, firstBit, writer.bitsWritten() - firstBit, at - blockBegin);
        }

        /** The kind of the block; a PLAIN one is never too long, since the TAPE has fewer than 65,535 bytes. */
        private int fewestBits(int firstBit) {
            int kind = 0;
            int fewest = 3 + (-(firstBit + 3) & 7) + 32 + 8 * (at - blockBegin);
            int fixedBits = 3 + bitsOfNumbers
                + fixedLetters.bitsFor(letterWeights) + fixedDistances.bitsFor(distanceWeights);
            if (fixedBits < fewest) {
                kind = 1;
                fewest = fixedBits;
            }
            if (pieces > 0) {
                int madeBits = 3 + bitsOfNumbers + made.bitsOfTelling()
                    + made.letters.bitsFor(letterWeights) + made.distances.bitsFor(distanceWeights);
                if (madeBits < fewest) {
                    kind = 2;
                }
            }
            return kind;
        }

        private void writePlain() {
            int n = at - blockBegin;
            writer.fillByte();
            writer.writeNumber(n, 16);
            writer.writeNumber(65535 - n, 16);
            for (int i = blockBegin; i < at; i++) {
                writer.writeNumber(tape.byteAt(i), 8);
            }
        }

        private void writePieces(WriteCode letters, WriteCode distances) {
            for (int i = 0; i < pieces; i++) {
                int length = pieceLengths[i];
                int value = pieceValues[i];
                if (length == 0) {
                    writer.writeSymbol(letters, value);
                } else {
                    int longer = lengthSymbol(length);
                    int farther = distanceSymbol(value);
                    writer.writeSymbol(letters, FIRST_LENGTH + longer);
                    writer.writeNumber(length - lengthBase(longer), lengthBits(longer));
                    writer.writeSymbol(distances, farther);
                    writer.writeNumber(value - distanceBase(farther), distanceBits(farther));
                }
            }
            writer.writeSymbol(letters, END_OF_BLOCK);
        }
    }
}
