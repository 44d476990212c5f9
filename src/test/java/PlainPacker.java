import java.util.ArrayList;
import java.util.Comparator;
import java.util.List;
import java.util.zip.Adler32;
import java.util.zip.CRC32;

/** PACKING once more, word by word from the document and without any haste, to be compared with the class. */
final class PlainPacker {
    final List<int[]> blocks = new ArrayList<>();
    /** How many bits each block would take in each KIND that it may be of. */
    final List<int[]> bitsOfKinds = new ArrayList<>();
    int stretches;

    private final byte[] tape;
    private final List<int[]> pieces = new ArrayList<>();

    PlainPacker(byte[] tape) {
        this.tape = tape;
        findPieces();
    }

    byte[] pack(int wrapper) {
        blocks.clear();
        bitsOfKinds.clear();
        Bits all = new Bits();
        if (wrapper == 1) {
            all.bytes(120, 156);
        } else if (wrapper == 2) {
            all.bytes(31, 139, 8, 0, 0, 0, 0, 0, 0, 255);
        }
        int from = 0;
        do {
            int to = Math.min(from + 1024, pieces.size());
            addBlock(all, pieces.subList(from, to), to == pieces.size());
            from = to;
        } while (from < pieces.size());
        all.toByte();
        if (wrapper == 1) {
            Adler32 sum = new Adler32();
            sum.update(tape);
            for (int shift = 24; shift >= 0; shift -= 8) {
                all.number((int) (sum.getValue() >> shift), 8);
            }
        } else if (wrapper == 2) {
            CRC32 sum = new CRC32();
            sum.update(tape);
            all.number((int) sum.getValue(), 32).number(tape.length, 32);
        }
        return all.row();
    }

    /** Length and distance of the stretch of a place; null if there is none. */
    private int[] stretchAt(int p) {
        int[] best = null;
        for (int distance = 1; distance <= 4096 && distance <= p; distance++) {
            int length = 0;
            while (length < 258 && p + length < tape.length && tape[p + length] == tape[p + length - distance]) {
                length++;
            }
            if (length >= 3 && (best == null || length > best[0])) {
                best = new int[] {length, distance};
            }
        }
        return best;
    }

    /** A piece: place, length (1 for a byte), distance (0 for a byte). */
    private void findPieces() {
        int p = 0;
        while (p < tape.length) {
            int[] here = stretchAt(p);
            int[] next = here == null ? null : stretchAt(p + 1);
            if (here != null && (next == null || next[0] <= here[0])) {
                pieces.add(new int[] {p, here[0], here[1]});
                p += here[0];
                stretches++;
            } else {
                pieces.add(new int[] {p, 1, 0});
                p++;
            }
        }
    }

    private void addBlock(Bits all, List<int[]> some, boolean last) {
        int begin = some.isEmpty() ? 0 : some.get(0)[0];
        int bytes = some.stream().mapToInt(piece -> piece[1]).sum();
        List<Bits> kinds = new ArrayList<>();
        kinds.add(plain(all.length(), begin, bytes, last));
        kinds.add(fixed(some, last));
        if (!some.isEmpty()) {
            kinds.add(made(some, last));
        }
        bitsOfKinds.add(kinds.stream().mapToInt(Bits::length).toArray());
        int kind = 0;
        for (int k = 1; k < kinds.size(); k++) {
            if (kinds.get(k).length() < kinds.get(kind).length()) {
                kind = k;
            }
        }
        blocks.add(new int[] {kind, all.length(), kinds.get(kind).length(), bytes});
        all.add(kinds.get(kind));
    }

    private Bits plain(int firstBit, int begin, int bytes, boolean last) {
        Bits bits = new Bits().head(last ? 1 : 0, 0);
        while ((firstBit + bits.length()) % 8 != 0) {
            bits.number(0, 1);
        }
        bits.number(bytes, 16).number(65535 - bytes, 16);
        for (int i = begin; i < begin + bytes; i++) {
            bits.number(tape[i], 8);
        }
        return bits;
    }

    private Bits fixed(List<int[]> some, boolean last) {
        int[] letters = new int[288];
        for (int i = 0; i < 288; i++) {
            letters[i] = i < 144 ? 8 : i < 256 ? 9 : i < 280 ? 7 : 8;
        }
        int[] distances = new int[32];
        java.util.Arrays.fill(distances, 5);
        return new Bits().head(last ? 1 : 0, 1).add(symbols(some, letters, distances));
    }

    private Bits symbols(List<int[]> some, int[] letterLengths, int[] distanceLengths) {
        String[] letters = Bits.wordsOf(letterLengths);
        String[] distances = Bits.wordsOf(distanceLengths);
        Bits bits = new Bits();
        for (int[] piece : some) {
            if (piece[2] == 0) {
                bits.word(letters[tape[piece[0]] & 255]);
            } else {
                int i = lengthIndex(piece[1]);
                int j = distanceIndex(piece[2]);
                bits.word(letters[257 + i]).number(piece[1] - lengthFrom(i), lengthBits(i));
                bits.word(distances[j]).number(piece[2] - distanceFrom(j), distanceBits(j));
            }
        }
        return bits.word(letters[256]);
    }

    static int lengthBits(int i) {
        return i < 8 || i == 28 ? 0 : i / 4 - 1;
    }

    static int lengthFrom(int i) {
        return i < 8 ? 3 + i : i == 28 ? 258 : (4 + i % 4) * (1 << i / 4 - 1) + 3;
    }

    static int distanceBits(int j) {
        return j < 4 ? 0 : j / 2 - 1;
    }

    static int distanceFrom(int j) {
        return j < 4 ? 1 + j : (2 + j % 2) * (1 << j / 2 - 1) + 1;
    }

    private static int lengthIndex(int length) {
        int i = 28;
        while (lengthFrom(i) > length) {
            i--;
        }
        return i;
    }

    private static int distanceIndex(int distance) {
        int j = 29;
        while (distanceFrom(j) > distance) {
            j--;
        }
        return j;
    }

    private Bits made(List<int[]> some, boolean last) {
        int[] letterWeights = new int[286];
        int[] distanceWeights = new int[30];
        letterWeights[256] = 1;
        for (int[] piece : some) {
            if (piece[2] == 0) {
                letterWeights[tape[piece[0]] & 255]++;
            } else {
                letterWeights[257 + lengthIndex(piece[1])]++;
                distanceWeights[distanceIndex(piece[2])]++;
            }
        }
        int[] letters = upToLast(lengthsByWeights(letterWeights, 15), 257);
        int[] distances = upToLast(lengthsByWeights(distanceWeights, 15), 1);
        int[] row = java.util.Arrays.copyOf(letters, letters.length + distances.length);
        System.arraycopy(distances, 0, row, letters.length, distances.length);
        List<Integer> told = tellRow(row);
        int[] lengths = lengthsOfLengths(told);
        int c = 18;
        while (c > 3 && lengths[Bits.ORDER[c]] == 0) {
            c--;
        }
        Bits bits = new Bits().head(last ? 1 : 0, 2);
        bits.number(letters.length - 257, 5).number(distances.length - 1, 5).number(c - 3, 4);
        for (int i = 0; i <= c; i++) {
            bits.number(lengths[Bits.ORDER[i]], 3);
        }
        return bits.lengths(lengths, told).add(symbols(some, letters, distances));
    }

    private static int[] upToLast(int[] lengths, int least) {
        int many = lengths.length;
        while (many > least && lengths[many - 1] == 0) {
            many--;
        }
        return java.util.Arrays.copyOf(lengths, many);
    }

    private static int[] lengthsOfLengths(List<Integer> told) {
        int[] weights = new int[19];
        for (int one : told) {
            weights[one % 100]++;
        }
        long kinds = java.util.Arrays.stream(weights).filter(weight -> weight > 0).count();
        if (kinds == 1) {
            weights[weights[0] > 0 ? 1 : 0] = 1;
        }
        return lengthsByWeights(weights, 7);
    }

    /** Symbols of the code of lengths, told as symbol + 100 * the number behind it. */
    static List<Integer> tellRow(int[] row) {
        List<Integer> told = new ArrayList<>();
        int i = 0;
        while (i < row.length) {
            int same = sameFrom(row, i);
            if (row[i] == 0 && same >= 11) {
                int many = Math.min(same, 138);
                told.add(18 + 100 * (many - 11));
                i += many;
            } else if (row[i] == 0 && same >= 3) {
                told.add(17 + 100 * (same - 3));
                i += same;
            } else if (row[i] == 0) {
                told.add(0);
                i++;
            } else {
                told.add(row[i]);
                i++;
                while (i < row.length && row[i] == row[i - 1] && sameFrom(row, i) >= 3) {
                    int many = Math.min(sameFrom(row, i), 6);
                    told.add(16 + 100 * (many - 3));
                    i += many;
                }
                while (i < row.length && row[i] == row[i - 1]) {
                    told.add(row[i]);
                    i++;
                }
            }
        }
        return told;
    }

    private static int sameFrom(int[] row, int i) {
        int end = i;
        while (end < row.length && row[end] == row[i]) {
            end++;
        }
        return end - i;
    }

    /** A thing of a row: its weight, whether it is two things, and how often each symbol is in it. */
    private record Thing(long weight, int pair, int[] counts) {
        Thing with(Thing other) {
            int[] both = counts.clone();
            for (int i = 0; i < both.length; i++) {
                both[i] += other.counts[i];
            }
            return new Thing(weight + other.weight, 1, both);
        }
    }

    static int[] lengthsByWeights(int[] weights, int most) {
        List<Thing> symbols = new ArrayList<>();
        for (int symbol = 0; symbol < weights.length; symbol++) {
            if (weights[symbol] > 0) {
                int[] counts = new int[weights.length];
                counts[symbol] = 1;
                symbols.add(new Thing(weights[symbol], 0, counts));
            }
        }
        int[] lengths = new int[weights.length];
        if (symbols.size() < 2) {
            return symbols.isEmpty() ? lengths : symbols.get(0).counts();
        }
        Comparator<Thing> order = Comparator.comparingLong(Thing::weight).thenComparingInt(Thing::pair);
        List<Thing> row = new ArrayList<>(symbols);
        row.sort(order);
        for (int k = 1; k < most; k++) {
            List<Thing> next = new ArrayList<>(symbols);
            for (int i = 0; i + 1 < row.size(); i += 2) {
                next.add(row.get(i).with(row.get(i + 1)));
            }
            next.sort(order);
            row = next;
        }
        for (Thing thing : row.subList(0, 2 * symbols.size() - 2)) {
            for (int symbol = 0; symbol < lengths.length; symbol++) {
                lengths[symbol] += thing.counts()[symbol];
            }
        }
        return lengths;
    }
}
