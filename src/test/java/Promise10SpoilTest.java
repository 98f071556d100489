/** Promise 10: spoil. */
public final class Promise10SpoilTest {
    public static void main(String[] args) {
        everyByte();
        severalBytes();
        answersFalse();
        forged();
        writtenAnew();
        wrongInputs();
        Due.end();
    }

    private static void everyByte() {
        StripeField x = new StripeField(6, 3, 48);
        Racks.write(x, 0, 5);
        int writes = x.look(1);
        for (int at = 0; at < 70; at++) {
            for (int bit = 0; bit < 8; bit++) {
                Due.is("spoil", x.spoil(0, 0, at, 1, 1L << bit), true);
                Due.is("spoilt", x.look(3), 1);
                Due.is("read", x.read(0, 0), 5);
                Due.is("back as written", x.spoil(0, 0, at, 1, 1L << bit), true);
                Due.is("none spoilt", x.look(3), 0);
            }
        }
        Due.is("no write", x.look(1), writes);
    }

    /** Bytes of several calls are undone by one that has them together, so each went to its own place. */
    private static void severalBytes() {
        StripeField x = new StripeField(6, 3, 48);
        Racks.write(x, 0, 5);
        for (int at = 0; at <= 62; at++) {
            for (int i = 0; i < 8; i++) {
                Due.is("a byte", x.spoil(0, 0, at + i, 1, 0xFFFFFF00L | (17 * i + 1)), true);
            }
            Due.is("spoilt", x.look(3), 1);
            Due.is("all eight", x.spoil(0, 0, at, 8, 0x7867564534231201L), true);
            Due.is("none spoilt", x.look(3), 0);
        }
        Due.is("bytes above n do not count", x.spoil(0, 0, 67, 3, 0x1100000200000100L), true);
        Due.is("the middle one alone", x.spoil(0, 0, 68, 1, 1), true);
        Due.is("none spoilt", x.look(3), 0);
    }

    private static void answersFalse() {
        StripeField x = Racks.rebuilt();
        Due.is("the disk is failed", x.spoil(0, 0, 0, 1, 1), false);
        Due.is("a free spare", x.spoil(4, 0, 0, 1, 1), false);
        Due.is("a spare that is a place", x.spoil(3, 0, 0, 1, 1), true);
        Due.is("refused", x.spoil(1, 0, 0, 1, 1), false);
        Due.is("refused", x.spoil(2, 0, 69, 1, 255), false);
        Due.is("the same once more", x.spoil(3, 0, 9, 1, 1), true);
        Due.is("another stripe", x.spoil(5, 1, 0, 1, 1), true);
        Due.is("spoilt", x.look(3), 2);
        x.off();
        Due.is("off", x.spoil(1, 5, 0, 1, 1), false);

        StripeField y = new StripeField(6, 3, 48);
        y.fail(0);
        Due.is("one of the stripe is lost", y.spoil(1, 0, 0, 1, 1), false);
        Due.is("none is spoilt", y.look(3), 0);
        y.replace(0);
        Due.is("blank", y.spoil(0, 0, 0, 1, 1), false);
    }

    private static void forged() {
        StripeField x = new StripeField(6, 3, 48);
        Racks.write(x, 0, 5);
        long mask = Racks.forgedMask(0x12345678);
        Due.is("valid with other bytes", x.spoil(0, 0, 62, 8, mask), false);
        Due.is("it is as it was", x.look(3), 0);
        Due.is("the bytes", x.spoil(0, 0, 62, 4, mask), true);
        Due.is("the check to them", x.spoil(0, 0, 66, 4, mask >>> 32), false);
        Due.is("spoilt", x.look(3), 1);
        Due.is("the bytes back", x.spoil(0, 0, 62, 4, mask), true);
        Due.is("none spoilt", x.look(3), 0);
        x.spoil(0, 0, 62, 4, mask);
        Due.is("scrub", x.scrub(), 1);
        Due.is("written last is what the scrub wrote", x.spoil(0, 0, 62, 8, mask), false);
        Due.is("not what was xored before", x.spoil(0, 0, 62, 4, mask), true);
        Due.is("read", x.read(0, 0), 5);
    }

    /** What spoilt a cell before it was written says nothing of what comes behind. */
    private static void writtenAnew() {
        for (int at = 0; at < 70; at++) {
            StripeField x = new StripeField(6, 3, 48);
            Due.is("spoil", x.spoil(0, 0, at, 1, 1), true);
            Due.is("scrub", x.scrub(), 1);
            Due.is("spoil what was scrubbed", x.spoil(0, 0, 5, 1, 1), true);
            Due.is("back as written", x.spoil(0, 0, 5, 1, 1), true);
            Due.is("none spoilt", x.look(3), 0);
            x.spoil(1, 0, at, 1, 1);
            Racks.write(x, 1, 1);
            Due.is("spoil what was written", x.spoil(1, 0, 5, 1, 1), true);
            Due.is("back as written", x.spoil(1, 0, 5, 1, 1), true);
            Due.is("none spoilt", x.look(3), 0);
        }
    }

    private static void wrongInputs() {
        StripeField x = new StripeField(6, 3, 48);
        for (int wrong : new int[] {-1, Integer.MIN_VALUE, Integer.MAX_VALUE}) {
            Due.argument("disk", x, () -> x.spoil(wrong, 0, 0, 1, 1));
            Due.argument("offset", x, () -> x.spoil(0, wrong, 0, 1, 1));
            Due.argument("at", x, () -> x.spoil(0, 0, wrong, 1, 1));
            Due.argument("n", x, () -> x.spoil(0, 0, 0, wrong, 1));
        }
        Due.argument("disk 6", x, () -> x.spoil(6, 0, 0, 1, 1));
        Due.argument("offset ROWS, a log", x, () -> x.spoil(0, 48, 0, 1, 1));
        Due.argument("n 0", x, () -> x.spoil(0, 0, 0, 0, 1));
        Due.argument("n 9", x, () -> x.spoil(0, 0, 0, 9, 1));
        Due.argument("at 70", x, () -> x.spoil(0, 0, 70, 1, 1));
        Due.argument("at 63, n 8", x, () -> x.spoil(0, 0, 63, 8, 1));
        Due.argument("mask 0", x, () -> x.spoil(0, 0, 0, 8, 0));
        for (int n = 1; n < 8; n++) {
            int bytes = n;
            Due.argument("the bytes of mask are 0", x, () -> x.spoil(0, 0, 0, bytes, -1L << (8 * bytes)));
            Due.is("the highest of them is not", x.spoil(0, 0, 0, n, 1L << (8 * n - 1)), true);
            Due.is("and back", x.spoil(0, 0, 0, n, 1L << (8 * n - 1)), true);
        }
        x.off();
        Due.argument("while off too", x, () -> x.spoil(0, 0, 70, 1, 1));
        Due.is("right inputs while off", x.spoil(0, 0, 69, 1, 1), false);
    }
}
