import java.util.ArrayList;
import java.util.HashMap;
import java.util.List;
import java.util.Map;
import java.util.zip.Adler32;
import java.util.zip.CRC32;

/** Unpacking once more, word by word from the document and without any haste, to be compared with the class. */
final class PlainUnpacker {
    int fault;
    int place = -1;
    int stretches;
    final List<int[]> blocks = new ArrayList<>();
    /** Of each block its pieces: a byte by its number, a stretch as length@distance; nothing of a PLAIN one. */
    final List<String> pieces = new ArrayList<>();
    /** Of each block of KIND 2 what it told. */
    final List<Told> told = new ArrayList<>();
    /** The bits behind the last block up to the end of its byte. */
    String bitsBehind = "";
    byte[] unpacked = new byte[0];

    private final byte[] tape;
    private final byte[] out = new byte[65536];
    private int many;
    private int memberBegin;
    private int at;

    /** What a block of KIND 2 told; a symbol above 15 stands as symbol + 100 * the number behind it. */
    record Told(int numbers, int[] lengthsOfLengths, List<Integer> symbols, int[] letters, int[] distances) {
    }

    private static final class Fault extends RuntimeException {
        private static final long serialVersionUID = 1L;
        final int number;
        final int bit;

        Fault(int number, int bit) {
            super(null, null, false, false);
            this.number = number;
            this.bit = bit;
        }
    }

    PlainUnpacker(byte[] tape, int wrapper) {
        this.tape = tape;
        try {
            unpackAll(wrapper);
            unpacked = java.util.Arrays.copyOf(out, many);
        } catch (Fault told) {
            fault = told.number;
            place = told.bit;
        }
    }

    private void unpackAll(int wrapper) {
        if (wrapper == 2) {
            do {
                member();
            } while (at < 8 * tape.length);
            return;
        }
        if (wrapper == 1) {
            int first = number(8);
            check((first & 15) == 8 && first / 16 <= 7, 12, at - 8);
            int second = number(8);
            check((second >> 5 & 1) == 0 && (256 * first + second) % 31 == 0, 12, at - 8);
        }
        packedRow();
        if (wrapper == 1) {
            Adler32 sum = new Adler32();
            sum.update(out, 0, many);
            int begin = at;
            long told = 0;
            for (int i = 0; i < 4; i++) {
                told = 256 * told + number(8);
            }
            check(told == sum.getValue(), 13, begin);
        }
        check(at == 8 * tape.length, 11, at);
    }

    private void member() {
        int begin = at / 8;
        memberBegin = many;
        for (int due : new int[] {31, 139, 8}) {
            check(number(8) == due, 12, at - 8);
        }
        int marks = number(8);
        check(marks < 32, 12, at - 8);
        for (int i = 0; i < 6; i++) {
            number(8);
        }
        if ((marks & 4) > 0) {
            for (int left = number(16); left > 0; left--) {
                number(8);
            }
        }
        for (int mark = 8; mark <= 16; mark *= 2) {
            boolean more = (marks & mark) > 0;
            while (more) {
                more = number(8) != 0;
            }
        }
        if ((marks & 2) > 0) {
            CRC32 sum = new CRC32();
            sum.update(tape, begin, at / 8 - begin);
            check(number(16) == (sum.getValue() & 65535), 13, at - 16);
        }
        packedRow();
        CRC32 sum = new CRC32();
        sum.update(out, memberBegin, many - memberBegin);
        int sumBit = at;
        check((number(16) | (long) number(16) << 16) == sum.getValue(), 13, sumBit);
        int countBit = at;
        check((number(16) | (long) number(16) << 16) == many - memberBegin, 14, countBit);
    }

    private static void check(boolean good, int fault, int bit) {
        if (!good) {
            throw new Fault(fault, bit);
        }
    }

    private int number(int bits) {
        int number = 0;
        for (int i = 0; i < bits; i++) {
            check(at < 8 * tape.length, 1, 8 * tape.length);
            number += (tape[at / 8] >> at % 8 & 1) << i;
            at++;
        }
        return number;
    }

    private void write(int value) {
        out[many] = (byte) value;
        many++;
    }

    private void packedRow() {
        boolean last = false;
        while (!last) {
            int begin = at;
            int before = many;
            last = number(1) == 1;
            int kind = number(2);
            check(kind != 3, 2, begin + 1);
            if (kind == 0) {
                plain();
                pieces.add("");
            } else if (kind == 1) {
                symbols(codeOf(fixedLetters()), codeOf(fixedDistances()));
            } else {
                made();
            }
            blocks.add(new int[] {kind, begin, at - begin, many - before});
        }
        bitsBehind = "";
        while (at % 8 != 0) {
            bitsBehind += tape[at / 8] >> at % 8 & 1;
            at++;
        }
    }

    private static int[] fixedLetters() {
        int[] letters = new int[288];
        for (int i = 0; i < 288; i++) {
            letters[i] = i < 144 ? 8 : i < 256 ? 9 : i < 280 ? 7 : 8;
        }
        return letters;
    }

    private static int[] fixedDistances() {
        int[] distances = new int[32];
        java.util.Arrays.fill(distances, 5);
        return distances;
    }

    private void plain() {
        while (at % 8 != 0) {
            at++;
        }
        int begin = at;
        int n = number(16);
        int rest = number(16);
        check(rest == 65535 - n, 3, begin + 16);
        check(many + n <= 65536, 10, begin);
        for (int i = 0; i < n; i++) {
            write(number(8));
        }
    }

    private static Map<String, Integer> codeOf(int[] lengths) {
        Map<String, Integer> code = new HashMap<>();
        String[] words = Bits.wordsOf(lengths);
        for (int symbol = 0; symbol < words.length; symbol++) {
            if (words[symbol] != null) {
                code.put(words[symbol], symbol);
            }
        }
        return code;
    }

    private static boolean isFull(int[] lengths) {
        double sum = 0;
        for (int length : lengths) {
            sum += length == 0 ? 0 : Math.pow(2, -length);
        }
        return sum == 1;
    }

    private int symbol(Map<String, Integer> code) {
        int begin = at;
        StringBuilder word = new StringBuilder();
        do {
            word.append(number(1));
            Integer symbol = code.get(word.toString());
            if (symbol != null) {
                return symbol;
            }
        } while (code.size() > 1);
        throw new Fault(8, begin);
    }

    private void made() {
        int letters = 257 + number(5);
        check(letters <= 286, 4, at - 5);
        int distances = 1 + number(5);
        check(distances <= 30, 4, at - 5);
        int numbers = 4 + number(4);
        int[] lengthsOfLengths = new int[19];
        for (int i = 0; i < numbers; i++) {
            lengthsOfLengths[Bits.ORDER[i]] = number(3);
        }
        check(isFull(lengthsOfLengths), 5, at);
        List<Integer> symbols = new ArrayList<>();
        int[] all = lengths(codeOf(lengthsOfLengths), letters + distances, symbols);
        int[] ofLetters = java.util.Arrays.copyOf(all, letters);
        int[] ofDistances = java.util.Arrays.copyOfRange(all, letters, all.length);
        check(isFull(ofLetters) && ofLetters[256] > 0, 5, at);
        int coded = 0;
        int sum = 0;
        for (int length : ofDistances) {
            coded += length > 0 ? 1 : 0;
            sum += length;
        }
        check(isFull(ofDistances) || coded == 0 || coded == 1 && sum == 1, 5, at);
        told.add(new Told(numbers, lengthsOfLengths, symbols, ofLetters, ofDistances));
        symbols(codeOf(ofLetters), codeOf(ofDistances));
    }

    private int[] lengths(Map<String, Integer> code, int due, List<Integer> symbols) {
        List<Integer> all = new ArrayList<>();
        while (all.size() < due) {
            int begin = at;
            int symbol = symbol(code);
            if (symbol < 16) {
                all.add(symbol);
                symbols.add(symbol);
                continue;
            }
            check(symbol > 16 || !all.isEmpty(), 6, begin);
            int value = symbol == 16 ? all.get(all.size() - 1) : 0;
            int more = number(symbol == 16 ? 2 : symbol == 17 ? 3 : 7);
            int times = more + (symbol == 18 ? 11 : 3);
            symbols.add(symbol + 100 * more);
            check(all.size() + times <= due, 7, begin);
            for (int i = 0; i < times; i++) {
                all.add(value);
            }
        }
        return all.stream().mapToInt(length -> length).toArray();
    }

    private void symbols(Map<String, Integer> letters, Map<String, Integer> distances) {
        StringBuilder text = new StringBuilder();
        while (true) {
            int begin = at;
            int letter = symbol(letters);
            if (letter == 256) {
                pieces.add(text.toString().trim());
                return;
            }
            if (letter < 256) {
                check(many < 65536, 10, begin);
                write(letter);
                text.append(letter).append(' ');
                continue;
            }
            int i = letter - 257;
            check(i <= 28, 8, begin);
            int length = PlainPacker.lengthFrom(i) + number(PlainPacker.lengthBits(i));
            int distanceBit = at;
            int j = symbol(distances);
            check(j <= 29, 8, distanceBit);
            int distance = PlainPacker.distanceFrom(j) + number(PlainPacker.distanceBits(j));
            check(distance <= many - memberBegin, 9, distanceBit);
            check(many + length <= 65536, 10, begin);
            for (int k = 0; k < length; k++) {
                write(out[many - distance]);
            }
            stretches++;
            text.append(length).append('@').append(distance).append(' ');
        }
    }
}
