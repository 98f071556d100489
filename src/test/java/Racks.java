import java.util.ArrayList;
import java.util.List;
import java.util.function.Function;
import java.util.function.IntSupplier;
import java.util.function.IntToLongFunction;
import java.util.zip.CRC32C;

/** What tests do again and again with a field. */
final class Racks {
    /** Numbers that are wrong wherever a number is looked at. */
    static final int[] FAR = {Integer.MIN_VALUE, -1000, -2, 1000, Integer.MAX_VALUE};

    /** Whats of look. */
    static final int ON = 0;
    static final int WRITES = 1;
    static final int LOST = 2;
    static final int SPOILT = 3;
    static final int FREE = 4;
    static final int HOLES = 6;
    static final int NEXT = 8;
    static final int LIVE = 11;
    static final int TAPE = 12;

    private Racks() {
    }

    /** All that can be seen of a field; twins are asked, so it has no call more. */
    static String seen(Field x) {
        StringBuilder text = new StringBuilder();
        Field twin = x.twin();
        for (Function<Field, Object> question : questions(x)) {
            if (twin.callsLeft() == 0) {
                twin = x.twin();
            }
            text.append(question.apply(twin)).append(' ');
        }
        return text.append(future(x.twin())).toString();
    }

    private static List<Function<Field, Object>> questions(Field x) {
        List<Function<Field, Object>> questions = new ArrayList<>();
        for (int what = 0; what <= 12; what++) {
            int w = what;
            questions.add(y -> y.look(w));
        }
        for (int row = 0; row < x.rows; row++) {
            for (int position = 0; position < x.positions; position++) {
                int r = row;
                int p = position;
                questions.add(y -> y.place(r, p));
            }
        }
        if (x.twin().look(ON) == 1) {
            for (int i = 0; i < 2 * x.blocks; i++) {
                int block = i / 2;
                int k = 7 * (i % 2);
                questions.add(y -> y.read(block, k));
            }
        }
        return questions;
    }

    /** The bytes of the tape, and when power will be lost, are seen by what comes of them alone. */
    private static String future(Field x) {
        StringBuilder text = new StringBuilder();
        for (int round = 0; round < 4; round++) {
            if (x.look(ON) == 0) {
                text.append(x.open()).append(' ');
            } else {
                text.append(x.write(0)).append(' ');
            }
        }
        for (int k = 0; k < 8 && x.look(ON) == 1; k++) {
            text.append(x.read(0, k)).append(' ');
        }
        return text.append(x.look(WRITES)).toString();
    }

    /** Feeds one number and writes it. */
    static boolean write(Field x, int block, long number) {
        x.feed(8, number);
        return x.write(block);
    }

    /** Writes the first blocks: 1000 + the block's number. */
    static void fill(Field x, int blocks) {
        for (int block = 0; block < blocks; block++) {
            write(x, block, 1000 + block);
        }
    }

    static void areFilled(String when, Field x, int blocks) {
        read(when, x, blocks, block -> 1000 + block);
    }

    /** Reads the first blocks in twins. */
    static void read(String when, Field x, int blocks, IntToLongFunction want) {
        Field twin = x.twin();
        for (int block = 0; block < blocks; block++) {
            if (twin.callsLeft() == 0) {
                twin = x.twin();
            }
            Due.is(when + ": block " + block, twin.read(block, 0), want.applyAsLong(block));
        }
    }

    /** Lets power go at the n-th write from now on, of that block. */
    static boolean cutWrite(Field x, int block, long number, int n) {
        x.lose(n);
        return write(x, block, number);
    }

    /** Makes steps till there is nothing to do: how many. */
    static int all(IntSupplier step) {
        int count = 0;
        while (count < Field.CALLS && step.getAsInt() == 1) {
            count++;
        }
        return count;
    }

    /**
     * 6 disks, width 3, 48 rows, with its blocks filled. From row 0 on the positions 0 .. 5 lie on
     * the disks 0 1 2 3 4 5, 1 0 5 4 3 2, 2 3 4 5 0 1, 3 2 1 0 5 4, 4 5 0 1 2 3, 5 4 3 2 1 0, and so
     * on again; stripe and row are one, 0 and 1 its data, 2 its parity, and 3 .. 5 the spares.
     */
    static Field six() {
        Field x = new Field(6, 3, 48);
        fill(x, x.blocks);
        return x;
    }

    /** The same with disk 0 failed and every lost position rebuilt: of row 0 position 0 lies on disk 3. */
    static Field rebuilt() {
        Field x = six();
        x.fail(0);
        all(x::rebuild);
        return x;
    }

    /** The same with disk 0 replaced, and power lost at the second write of the first copying back. */
    static Field withAStaleSpare() {
        Field x = rebuilt();
        x.replace(0);
        x.lose(2);
        x.copyBack();
        return x;
    }

    static void offAndOpen(Field x) {
        x.off();
        x.open();
    }

    /**
     * How the check of a cell changes when the bytes from place at on are xored with the bytes of a
     * mask, lowest first.
     */
    static long checkMask(int at, int n, long mask) {
        byte[] bytes = new byte[66];
        long plain = checkOf(bytes);
        for (int i = 0; i < n; i++) {
            bytes[at + i] = (byte) (mask >>> (8 * i));
        }
        return plain ^ checkOf(bytes);
    }

    /** Four bytes from place 62 on and the check's four behind them, that make another valid cell. */
    static long forgedMask(int lastFour) {
        return (lastFour & 0xFFFFFFFFL) | (checkMask(62, 4, lastFour) << 32);
    }

    static long checkOf(byte[] bytes) {
        CRC32C check = new CRC32C();
        check.update(bytes, 0, 66);
        return check.getValue();
    }
}
