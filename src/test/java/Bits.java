import java.util.List;

/** A row of bits that is written by hand: the document's numbers, codes and blocks. */
final class Bits {
    static final int[] ORDER = {16, 17, 18, 0, 8, 7, 9, 6, 10, 5, 11, 4, 12, 3, 13, 2, 14, 1, 15};

    private final StringBuilder text = new StringBuilder();

    int length() {
        return text.length();
    }

    Bits number(int value, int bits) {
        for (int i = 0; i < bits; i++) {
            text.append((value >> i & 1) == 1 ? '1' : '0');
        }
        return this;
    }

    /** A code as it is read, the highest bit first. */
    Bits word(String word) {
        text.append(word);
        return this;
    }

    /** What stands from a bit on. */
    Bits from(int bit) {
        return new Bits().word(text.substring(bit));
    }

    Bits add(Bits others) {
        text.append(others.text);
        return this;
    }

    Bits bytes(int... values) {
        for (int value : values) {
            number(value, 8);
        }
        return this;
    }

    Bits toByte() {
        while (text.length() % 8 != 0) {
            text.append('0');
        }
        return this;
    }

    Bits head(int last, int kind) {
        return number(last, 1).number(kind, 2);
    }

    Bits plain(int last, int... values) {
        return head(last, 0).toByte().number(values.length, 16).number(65535 - values.length, 16).bytes(values);
    }

    /** A letter of KIND 1. */
    Bits letter(int letter) {
        return word(FIXED_LETTERS[letter]);
    }

    /** A distance's symbol of KIND 1. */
    Bits distance(int symbol) {
        return word(FIXED_DISTANCES[symbol]);
    }

    /** KIND 1's symbols for so many bytes of a value: one byte, stretches of 258 behind it, and bytes again. */
    Bits run(int value, int many) {
        letter(value);
        int left = many - 1;
        while (left >= 258) {
            letter(285).distance(0);
            left -= 258;
        }
        while (left > 0) {
            letter(value);
            left--;
        }
        return this;
    }

    byte[] row() {
        byte[] row = new byte[(text.length() + 7) / 8];
        for (int i = 0; i < text.length(); i++) {
            if (text.charAt(i) == '1') {
                row[i / 8] |= (byte) (1 << i % 8);
            }
        }
        return row;
    }

    /** The begin of a block of KIND 2 up to its code of lengths, which is told by all 19 of its lengths. */
    Bits codes(int letters, int distances, int[] lengthsOfLengths) {
        number(letters - 257, 5).number(distances - 1, 5).number(15, 4);
        for (int symbol : ORDER) {
            number(lengthsOfLengths[symbol], 3);
        }
        return this;
    }

    /** Symbols of the code of lengths; one above 15 is told as symbol + 100 * its number. */
    Bits lengths(int[] lengthsOfLengths, List<Integer> told) {
        String[] words = wordsOf(lengthsOfLengths);
        for (int one : told) {
            int symbol = one % 100;
            word(words[symbol]);
            number(one / 100, symbol < 16 ? 0 : symbol == 16 ? 2 : symbol == 17 ? 3 : 7);
        }
        return this;
    }

    private static final String[] FIXED_LETTERS = wordsOf(fixedLengths());
    private static final String[] FIXED_DISTANCES = fiveBits();

    private static int[] fixedLengths() {
        int[] lengths = new int[288];
        for (int i = 0; i < 288; i++) {
            lengths[i] = i < 144 ? 8 : i < 256 ? 9 : i < 280 ? 7 : 8;
        }
        return lengths;
    }

    private static String[] fiveBits() {
        int[] lengths = new int[32];
        java.util.Arrays.fill(lengths, 5);
        return wordsOf(lengths);
    }

    /** CODES by LENGTHS, as the document tells them; null for a symbol without a code. */
    static String[] wordsOf(int[] lengths) {
        String[] words = new String[lengths.length];
        String before = null;
        for (int length = 1; length <= 15; length++) {
            for (int symbol = 0; symbol < lengths.length; symbol++) {
                if (lengths[symbol] == length) {
                    StringBuilder word = new StringBuilder(before == null ? "" : oneMore(before));
                    while (word.length() < length) {
                        word.append('0');
                    }
                    before = word.toString();
                    words[symbol] = before;
                }
            }
        }
        return words;
    }

    private static String oneMore(String word) {
        int number = Integer.parseInt(word, 2) + 1;
        StringBuilder more = new StringBuilder(Integer.toBinaryString(number));
        while (more.length() < word.length()) {
            more.insert(0, '0');
        }
        return more.toString();
    }
}
