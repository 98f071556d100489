/** Terms: tags. */
public final class TermsTagsTest {
    public static void main(String[] args) {
        spareHasTheTag();
        twoSparesOfARow();
        spareIsZeroAgain();
        everyColumnOfALog();
        everyStripeOfALog();
        logIsZeroAgain();
        Due.end();
    }

    /** The lowest and the highest position of a row: by its tag alone opening finds it in a spare. */
    private static void spareHasTheTag() {
        Due.sentence("in a spare 0, or p + 1 of the position it stands for");
        for (int[] sizes : new int[][] {{6, 3}, {7, 3}, {16, 3}, {16, 5}, {16, 8}}) {
            Field first = new Field(sizes[0], sizes[1], 48);
            for (int position = 0; position < first.positions; position++) {
                Field x = first.fresh();
                x.fail(position);
                x.rebuild();
                Due.is("position " + position + " in the first spare", x.place(0, position), x.positions);
                x.off();
                Due.is("is found there", x.place(0, position), x.positions);
                x.open();
                Due.is("opening leaves it", x.look(Racks.WRITES), 1);
            }
        }
    }

    /** Row 0: position 0 goes to disk 3, then position 1 to disk 4; row 1: the other way round. */
    private static void twoSparesOfARow() {
        Due.sentence("p + 1 of the position it stands for");
        Field x = Racks.rebuilt();
        Due.is("fail", x.fail(1), true);
        Racks.all(x::rebuild);
        for (int round = 0; round < 3; round++) {
            Due.is("position 0 of row 0", x.place(0, 0), 3);
            Due.is("position 1 of row 0", x.place(0, 1), 4);
            Due.is("position 0 of row 1", x.place(1, 0), 3);
            Due.is("position 1 of row 1", x.place(1, 1), 4);
            if (round == 0) {
                x.off();
            } else if (round == 1) {
                x.open();
            }
        }
        Racks.areFilled("each has its own", x, x.blocks);
    }

    private static void spareIsZeroAgain() {
        Due.sentence("in a spare 0");
        Field x = Racks.rebuilt();
        x.replace(0);
        x.copyBack();
        Racks.write(x, 0, 5);
        int writes = x.look(Racks.WRITES);
        Due.is("home fails", x.fail(0), true);
        x.off();
        Due.is("its old spare stands for nothing", x.place(0, 0), -1);
        x.open();
        Due.is("and is left alone", x.look(Racks.WRITES), writes);
        Due.is("the block", x.read(0, 0), 5);
    }

    private static void everyColumnOfALog() {
        Due.sentence("in a log 0, or 1 + 8 * s + j.");
        for (int width = 3; width <= 8; width++) {
            for (int column = 0; column < width - 1; column++) {
                isReplayed(new Field(16, width, 48), column);
                isReplayed(new Field(9, width, 48), 40 * (width - 1) + column);
            }
        }
    }

    /** The lowest tag, 1; those about a byte's end; the highest one of all racks. */
    private static void everyStripeOfALog() {
        Due.sentence("1 + 8 * s + j.");
        Field x = new Field(16, 3, 64);
        for (int stripe : new int[] {0, 1, 30, 31, 32, 33, 63, 64, 127, 128, 255, 256, 257, 318, 319}) {
            isReplayed(x.fresh(), 2 * stripe);
            isReplayed(x.fresh(), 2 * stripe + 1);
        }
        for (int stripe = 0; stripe < 64; stripe++) {
            isReplayed(new Field(16, 8, 64), 7 * stripe + 6);
        }
    }

    /** Power is lost before parity is written, so that the log alone tells which one it is, and of what. */
    private static void isReplayed(Field x, int block) {
        int stripe = block / (x.width - 1);
        int first = stripe * (x.width - 1);
        for (int b = first; b < first + x.width - 1; b++) {
            Racks.write(x, b, 1000 + b);
        }
        Racks.cutWrite(x, block, 5, 3);
        int before = x.look(Racks.WRITES);
        Due.is("open", x.open(), true);
        Due.is("parity and log of block " + block, x.look(Racks.WRITES), before + 2);
        for (int b = first; b < first + x.width - 1; b++) {
            Field twin = x.twin();
            twin.fail(twin.place(stripe / x.groups, x.width * (stripe % x.groups) + b - first));
            Due.is("block " + b + ", reckoned", twin.read(b, 0), b == block ? 5 : 1000 + b);
        }
    }

    private static void logIsZeroAgain() {
        Due.sentence("in a log 0");
        Field x = Racks.six();
        int writes = x.look(Racks.WRITES);
        Racks.offAndOpen(x);
        Due.is("behind whole writes", x.look(Racks.WRITES), writes);
        Racks.cutWrite(x, 0, 5, 4);
        Due.is("three writes", x.look(Racks.WRITES), writes + 3);
        x.open();
        Due.is("the log was there still", x.look(Racks.WRITES), writes + 5);
        Racks.offAndOpen(x);
        Due.is("behind an opening", x.look(Racks.WRITES), writes + 5);
    }
}
