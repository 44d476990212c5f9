import java.util.Arrays;
import java.util.List;
import java.util.Random;
import java.util.zip.Adler32;
import java.util.zip.CRC32;

/** All promises at once: runs of 512 calls made by chance, good and wrong ones, against a plain model. */
public final class CallsTest {
    private static final int RUNS = 150;

    private final Random random;
    private final String run;
    private final RowPacker x = new RowPacker();
    private byte[] tape = new byte[0];
    private byte[] out = new byte[0];
    private int fault;
    private int place = -1;
    private int stretches;
    private List<int[]> blocks = List.of();

    private CallsTest(int seed) {
        random = new Random(seed);
        run = "run " + seed;
    }

    public static void main(String[] args) {
        for (int seed = 0; seed < RUNS; seed++) {
            CallsTest one = new CallsTest(seed);
            for (int i = 0; i < 512; i++) {
                one.call();
            }
        }
        roomOfCalls();
        TestKit.finish();
    }

    private void call() {
        switch (random.nextInt(17)) {
            case 0, 1, 2 -> feed();
            case 3 -> end();
            case 4 -> again();
            case 5, 6 -> change();
            case 7 -> pack();
            case 8, 9 -> unpack();
            case 10 -> turn();
            case 11 -> dueAnswer("fault", () -> x.fault(), fault);
            case 12 -> dueAnswer("place", () -> x.place(), place);
            case 13 -> out();
            case 14 -> sum();
            case 15 -> block();
            default -> {
                dueAnswer("size", () -> x.size(), out.length);
                dueAnswer("blocks", () -> x.blocks(), blocks.size());
                dueAnswer("stretches", () -> x.stretches(), stretches);
            }
        }
    }

    private interface Answer {
        long get();
    }

    private void dueAnswer(String what, Answer call, long want) {
        try {
            TestKit.due(run + ": " + what, call.get(), want);
        } catch (RuntimeException thrown) {
            TestKit.tellWrong(run + ": " + what + " threw " + thrown);
        }
    }

    private void dueIndex(String what, Answer call) {
        TestKit.dueThrow(run + ": " + what, IndexOutOfBoundsException.class, () -> call.get());
    }

    private void dueArgument(String what, Answer call) {
        TestKit.dueThrow(run + ": " + what, IllegalArgumentException.class, () -> call.get());
    }

    private void dueState(String what, Answer call) {
        TestKit.dueThrow(run + ": " + what, IllegalStateException.class, () -> call.get());
    }

    /** Mostly a number from the row, sometimes one at or behind an edge. */
    private int near(int many) {
        int[] edges = {-1, 0, many - 1, many, many + 1, Integer.MIN_VALUE, Integer.MAX_VALUE};
        return random.nextInt(4) == 0 || many == 0 ? edges[random.nextInt(edges.length)] : random.nextInt(many);
    }

    private void feed() {
        int[] five = random.ints(5, random.nextBoolean() ? 0 : Integer.MIN_VALUE, 0x01010101).toArray();
        Answer call = () -> x.feed(five[0], five[1], five[2], five[3], five[4]);
        if (tape.length > 32748) {
            dueState("feed", call);
            return;
        }
        dueAnswer("feed", call, tape.length + 20);
        int begin = tape.length;
        tape = Arrays.copyOf(tape, begin + 20);
        for (int i = 0; i < 20; i++) {
            tape[begin + i] = (byte) (five[i / 4] >> 24 - 8 * (i % 4));
        }
    }

    private void end() {
        int n = near(tape.length + 1);
        if (n < 0 || n > tape.length) {
            dueArgument("end", () -> {
                x.end(n);
                return 0;
            });
            return;
        }
        x.end(n);
        tape = Arrays.copyOf(tape, n);
    }

    private void again() {
        int back = near(tape.length) + random.nextInt(2);
        int many = random.nextInt(6) == 0 ? near(32769 - tape.length) : random.nextInt(200);
        Answer call = () -> x.again(back, many);
        if (many < 0 || back < 1 || back > tape.length) {
            dueArgument("again", call);
        } else if ((long) tape.length + many > 32768) {
            dueState("again", call);
        } else {
            int begin = tape.length;
            dueAnswer("again", call, begin + many);
            tape = Arrays.copyOf(tape, begin + many);
            for (int i = begin; i < tape.length; i++) {
                tape[i] = tape[i - back];
            }
        }
    }

    private void change() {
        int i = near(tape.length);
        int by = near(256);
        if (i < 0 || i >= tape.length) {
            dueIndex("change", () -> x.change(i, by));
        } else if (by < 0 || by > 255) {
            dueArgument("change", () -> x.change(i, by));
        } else {
            tape[i] ^= (byte) by;
            dueAnswer("change", () -> x.change(i, by), tape[i] & 255);
        }
    }

    private void pack() {
        int wrapper = near(3);
        if (wrapper < 0 || wrapper > 2) {
            dueArgument("pack", () -> x.pack(wrapper));
            return;
        }
        if (tape.length > 8000) {
            return;
        }
        PlainPacker due = new PlainPacker(tape);
        out = due.pack(wrapper);
        fault = 0;
        place = -1;
        blocks = due.blocks;
        stretches = due.stretches;
        dueAnswer("pack", () -> x.pack(wrapper), out.length);
        TestKit.dueRow(run + ": packed", TestKit.outOf(x), out);
        if (random.nextInt(3) > 0 && out.length <= 32768) {
            turn();
        }
    }

    private void unpack() {
        int wrapper = near(3);
        if (wrapper < 0 || wrapper > 2) {
            dueArgument("unpack", () -> x.unpack(wrapper));
            return;
        }
        PlainUnpacker due = new PlainUnpacker(tape, wrapper);
        out = due.unpacked;
        fault = due.fault;
        place = due.place;
        blocks = due.blocks;
        stretches = due.stretches;
        dueAnswer("unpack", () -> x.unpack(wrapper), fault == 0 ? out.length : -1);
        TestKit.dueRow(run + ": unpacked", TestKit.outOf(x), out);
    }

    private void turn() {
        if (out.length > 32768) {
            dueState("turn", () -> x.turn());
            return;
        }
        dueAnswer("turn", () -> x.turn(), out.length);
        tape = out.clone();
    }

    private void out() {
        int i = near(out.length);
        if (i < 0 || i >= out.length) {
            dueIndex("out", () -> x.out(i));
        } else {
            dueAnswer("out", () -> x.out(i), out[i] & 255);
        }
    }

    private void sum() {
        int which = near(2);
        if (which < 0 || which > 1) {
            dueArgument("sum", () -> x.sum(which));
            return;
        }
        Adler32 a = new Adler32();
        a.update(tape);
        CRC32 b = new CRC32();
        b.update(tape);
        dueAnswer("sum", () -> x.sum(which), which == 0 ? a.getValue() : b.getValue());
    }

    private void block() {
        int i = near(blocks.size());
        int what = near(4);
        if (i < 0 || i >= blocks.size() || i > 63) {
            dueIndex("block", () -> x.block(i, what));
        } else if (what < 0 || what > 3) {
            dueArgument("block", () -> x.block(i, what));
        } else {
            dueAnswer("block", () -> x.block(i, what), blocks.get(i)[what]);
        }
    }

    /** No call but the constructor may take room: all calls of a run share one. */
    private static void roomOfCalls() {
        com.sun.management.ThreadMXBean threads =
            (com.sun.management.ThreadMXBean) java.lang.management.ManagementFactory.getThreadMXBean();
        RowPacker x = new RowPacker();
        long most = 0;
        for (int i = 0; i < 50; i++) {
            long before = threads.getCurrentThreadAllocatedBytes();
            x.feed(i, 2, 3, 4, 5);
            x.again(3, 500);
            x.pack(RowPacker.LONG);
            x.turn();
            x.unpack(RowPacker.LONG);
            x.unpack(RowPacker.SHORT);
            x.sum(1);
            long taken = threads.getCurrentThreadAllocatedBytes() - before;
            // The first rounds load classes.
            most = i < 10 ? 0 : Math.max(most, taken);
        }
        TestKit.due("bytes of room that a round of calls takes", most < 1000 ? 0 : most, 0);
    }
}
