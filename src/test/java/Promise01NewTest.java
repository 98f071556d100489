/** Promise 1: a new object. */
public final class Promise01NewTest {
    public static void main(String[] args) {
        sizes();
        stateAtFirst();
        cellsAtFirst();
        Due.end();
    }

    private static void sizes() {
        // disks, width, rows as given; disks, width, rows that are due
        int[][] cases = {
            {6, 3, 48, 6, 3, 48}, {16, 8, 64, 16, 8, 64}, {9, 4, 50, 9, 4, 50},
            {5, 3, 48, 8, 3, 48}, {17, 3, 48, 8, 3, 48}, {0, 0, 0, 8, 3, 48}, {-1, -1, -1, 8, 3, 48},
            {7, 2, 48, 7, 3, 48}, {12, 9, 48, 12, 3, 48}, {16, 9, 48, 16, 3, 48},
            {6, 5, 48, 6, 5, 48}, {6, 6, 48, 6, 3, 48}, {6, 7, 48, 6, 3, 48}, {8, 8, 48, 8, 3, 48},
            {8, 7, 48, 8, 7, 48}, {9, 8, 48, 9, 8, 48}, {17, 8, 48, 8, 3, 48}, {17, 7, 48, 8, 7, 48},
            {6, 3, 47, 6, 3, 48}, {6, 3, 65, 6, 3, 48}, {6, 3, 49, 6, 3, 49}, {6, 3, 63, 6, 3, 63},
            {Integer.MIN_VALUE, Integer.MIN_VALUE, Integer.MIN_VALUE, 8, 3, 48},
            {Integer.MAX_VALUE, Integer.MAX_VALUE, Integer.MAX_VALUE, 8, 3, 48},
        };
        for (int[] c : cases) {
            StripeField x = new StripeField(c[0], c[1], c[2]);
            String name = "new(" + c[0] + ", " + c[1] + ", " + c[2] + ")";
            Due.is(name + " disks", x.look(10), c[3]);
            Due.is(name + " width", x.look(9), c[4]);
            Due.is(name + " rows", Racks.rows(x), c[5]);
            Due.is(name + " stripes", x.look(7), c[5] * ((c[3] - 1) / c[4]));
            Due.is(name + " blocks", x.look(5), c[5] * ((c[3] - 1) / c[4]) * (c[4] - 1));
        }
    }

    private static void stateAtFirst() {
        StripeField x = new StripeField(11, 4, 60);
        int[] want = {1, 0, 0, 0, 60 * 3, 60 * 2 * 3, 0, 60 * 2, 0, 4, 11, 11, 0};
        for (int what = 0; what <= 12; what++) {
            Due.is("look(" + what + ")", x.look(what), want[what]);
        }
        for (int block = 0; block < x.look(5); block++) {
            for (int k = 0; k < 8; k++) {
                Due.is("read(" + block + ", " + k + ")", x.read(block, k), 0);
            }
        }
        Due.is("rebuild", x.rebuild(), 0);
        Due.is("copyBack, no cell is blank", x.copyBack(), 0);
    }

    /** Each cell is valid, so that one that is forged is refused, and a spare or a log has nothing to undo. */
    private static void cellsAtFirst() {
        StripeField x = new StripeField(7, 3, 48);
        for (int row = 0; row < 48; row++) {
            for (int position = 0; position < 6; position++) {
                int disk = x.place(row, position);
                Due.is("a forged cell", x.spoil(disk, row, 62, 8, Racks.forgedMask(77 + position)), false);
                Due.is("spoil", x.spoil(disk, row, 69, 1, 128), true);
                Due.is("spoilt", x.look(3), 1);
                Due.is("unspoil", x.spoil(disk, row, 69, 1, 128), true);
                Due.is("spoilt", x.look(3), 0);
            }
        }
        x.off();
        Due.is("open", x.open(), true);
        Due.is("opening writes nothing", x.look(1), 0);
    }
}
