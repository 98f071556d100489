import java.util.function.IntSupplier;
import java.util.zip.CRC32C;

/** What tests do again and again with a field. */
final class Racks {
    private Racks() {
    }

    /** All that can be seen of a field without changing it. */
    static String seen(StripeField x) {
        StringBuilder text = new StringBuilder();
        for (int what = 0; what <= 12; what++) {
            text.append(x.look(what)).append(' ');
        }
        for (int row = 0; row < rows(x); row++) {
            for (int position = 0; position < positions(x); position++) {
                text.append(x.place(row, position)).append(',');
            }
        }
        return x.look(0) == 1 ? text.append(blocks(x)).toString() : text.toString();
    }

    private static String blocks(StripeField x) {
        StringBuilder text = new StringBuilder();
        for (int block = 0; block < x.look(5); block++) {
            for (int k = 0; k < 8; k++) {
                text.append(x.read(block, k)).append(',');
            }
        }
        return text.toString();
    }

    static int groups(StripeField x) {
        return (x.look(10) - 1) / x.look(9);
    }

    static int rows(StripeField x) {
        return x.look(7) / groups(x);
    }

    static int positions(StripeField x) {
        return x.look(9) * groups(x);
    }

    /** Feeds one number and writes it. */
    static boolean write(StripeField x, int block, long number) {
        x.feed(8, number);
        return x.write(block);
    }

    /** Writes every block: 1000 + its number. */
    static void fill(StripeField x) {
        for (int block = 0; block < x.look(5); block++) {
            write(x, block, 1000 + block);
        }
    }

    static void areFilled(String when, StripeField x) {
        for (int block = 0; block < x.look(5); block++) {
            Due.is(when + ": block " + block, x.read(block, 0), 1000 + block);
        }
    }

    /** Lets power go at the n-th write from now on, of that block. */
    static boolean cutWrite(StripeField x, int block, long number, int n) {
        x.lose(n);
        return write(x, block, number);
    }

    /** Makes steps till there is nothing to do: how many. No rack has as many positions as the bound. */
    static int all(IntSupplier step) {
        int count = 0;
        while (count < 2000 && step.getAsInt() == 1) {
            count++;
        }
        return count;
    }

    /** What a rack of 6 disks, width 3, becomes with disk 0 failed and every lost position rebuilt. */
    static StripeField rebuilt() {
        StripeField x = new StripeField(6, 3, 48);
        fill(x);
        x.fail(0);
        all(x::rebuild);
        return x;
    }

    /**
     * How the check of 66 bytes changes when some of its last four are xored with the bytes of a
     * mask, lowest first: with it, eight bytes from place 62 on make a cell valid again.
     */
    static long forgedMask(int lastFour) {
        byte[] bytes = new byte[66];
        long plain = checkOf(bytes);
        for (int i = 0; i < 4; i++) {
            bytes[62 + i] = (byte) (lastFour >>> (8 * i));
        }
        return (lastFour & 0xFFFFFFFFL) | ((plain ^ checkOf(bytes)) << 32);
    }

    static long checkOf(byte[] bytes) {
        CRC32C check = new CRC32C();
        check.update(bytes, 0, 66);
        return check.getValue();
    }
}
