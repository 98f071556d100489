/** Promise 3: write. What is written where is in TermsWriteTest. */
public final class Promise03WriteTest {
    public static void main(String[] args) {
        toABlock();
        zerosBehind();
        tapeIsUsedUp();
        powerLost();
        powerLostAtTheLastWrite();
        powerLostAtTheOnlyWrite();
        noSuchBlock();
        whileOff();
        Due.end();
    }

    private static void toABlock() {
        Due.sentence("Writes the tape, with 0s behind it up to 64 bytes, to a block");
        Field x = new Field(9, 4, 50);
        for (int block = 0; block < 60; block++) {
            Due.is("write", Racks.write(x, block, 1000 + block), true);
        }
        Racks.areFilled("written", x, 60);
        Racks.read("the others", x, x.blocks, block -> block < 60 ? 1000 + block : 0);
        x.fail(3);
        Racks.areFilled("disk 3 failed", x, 60);
    }

    private static void zerosBehind() {
        Due.sentence("with 0s behind it up to 64 bytes");
        for (int bytes = 0; bytes <= 64; bytes++) {
            Field x = new Field(6, 3, 48);
            for (int i = 0; i < 8; i++) {
                x.feed(8, -1L);
            }
            x.write(3);
            for (int i = 0; i < bytes; i++) {
                x.feed(1, 9);
            }
            Due.is("write " + bytes + " bytes", x.write(3), true);
            for (int k = 0; k < 8; k++) {
                int there = Math.max(0, Math.min(8, bytes - 8 * k));
                long want = there == 0 ? 0 : 0x0909090909090909L >>> (64 - 8 * there);
                Due.is("word " + k + " of " + bytes + " bytes", x.read(3, k), want);
            }
        }
    }

    private static void tapeIsUsedUp() {
        Due.sentence("the tape is used up either way");
        for (int n = 0; n <= 4; n++) {
            Field x = new Field(6, 3, 48);
            x.feed(8, -1L);
            x.feed(3, -1L);
            x.lose(n);
            Due.is("write", x.write(0), n == 0);
            Due.is("the tape, power lost at " + n, x.look(Racks.TAPE), 0);
            if (n > 0) {
                x.open();
            }
            Due.is("feed", x.feed(1, 1), 1);
            x.write(2);
            Due.is("nothing of the old tape", x.read(2, 0), 1);
            Due.is("nor behind it", x.read(2, 1), 0);
        }
        Field x = new Field(6, 3, 48);
        x.feed(8, -1L);
        x.fail(0);
        x.lose(1);
        Due.is("the only write is lost", x.write(0), false);
        Due.is("the tape", x.look(Racks.TAPE), 0);
    }

    private static void powerLost() {
        Due.sentence("true; false when power was lost");
        for (int n = 1; n <= 6; n++) {
            Field x = Racks.six();
            int before = x.look(Racks.WRITES);
            Due.is("power lost at write " + n, Racks.cutWrite(x, 0, 101, n), n > 4);
            Due.is("on", x.look(Racks.ON), n > 4 ? 1 : 0);
            Due.is("writes done", x.look(Racks.WRITES), before + Math.min(n - 1, 4));
            if (n <= 4) {
                x.open();
            }
            Due.is("the block", x.read(0, 0), n <= 2 ? 1000 : 101);
            Due.is("the other", x.read(1, 0), 1001);
        }
    }

    private static void powerLostAtTheLastWrite() {
        Due.sentence("(also at the last write of it)");
        Field x = Racks.six();
        int before = x.look(Racks.WRITES);
        Due.is("write", Racks.cutWrite(x, 0, 101, 4), false);
        Due.is("it is off", x.look(Racks.ON), 0);
        Due.is("three writes", x.look(Racks.WRITES), before + 3);
        x.open();
        Due.is("the block is written all the same", x.read(0, 0), 101);
        Field y = Racks.six();
        Due.is("one write further", Racks.cutWrite(y, 0, 101, 5), true);
        Due.is("it is on", y.look(Racks.ON), 1);
    }

    /** In row 0 disk 0 has block 0, disk 2 the parity. */
    private static void powerLostAtTheOnlyWrite() {
        Due.sentence("(also at the last write of it)");
        for (int disk = 0; disk <= 2; disk += 2) {
            Field x = Racks.six();
            x.fail(disk);
            Due.is("the only write", Racks.cutWrite(x, 0, 101, 1), false);
            Due.is("it is off", x.look(Racks.ON), 0);
            x.open();
            Due.is("the block is as it was", x.read(0, 0), 1000);
            Due.is("one write further", Racks.cutWrite(x, 0, 101, 2), true);
            Due.is("the block", x.read(0, 0), 101);
        }
    }

    private static void noSuchBlock() {
        Due.sentence("Throws IllegalArgumentException when there is no such block");
        for (int[] sizes : new int[][] {{6, 3, 48}, {7, 3, 48}, {16, 8, 64}, {16, 3, 64}}) {
            Field x = new Field(sizes[0], sizes[1], sizes[2]);
            x.feed(4, 4);
            Due.argument("-1", x, () -> x.write(-1));
            Due.argument("one behind the last", x, () -> x.write(x.blocks));
            Due.argument("min", x, () -> x.write(Integer.MIN_VALUE));
            Due.argument("max", x, () -> x.write(Integer.MAX_VALUE));
            Due.is("the last one", x.write(x.blocks - 1), true);
            Due.is("has it", x.read(x.blocks - 1, 0), 4);
            x.feed(4, 5);
            Due.is("the first one", x.write(0), true);
            Due.is("has it", x.read(0, 0), 5);
        }
    }

    private static void whileOff() {
        Due.sentence("IllegalStateException when it is off.");
        Field x = new Field(6, 3, 48);
        x.feed(4, 4);
        x.off();
        Due.state("off", x, () -> x.write(0));
        Due.argument("no such block is told first", x, () -> x.write(96));
        Field y = new Field(6, 3, 48);
        Racks.cutWrite(y, 0, 1, 2);
        y.feed(4, 4);
        Due.state("power lost", y, () -> y.write(0));
        y.lose(1);
        y.open();
        y.feed(4, 4);
        Due.state("power lost in the opening", y, () -> y.write(95));
    }
}
