/** Terms: to write a block. In row 0 of six() block 0 lies on disk 0, block 1 on disk 1, their parity on disk 2. */
public final class TermsWriteTest {
    public static void main(String[] args) {
        blockIsLost();
        blockIsLostWide();
        parityIsLost();
        allAreThere();
        otherIsLostOrSpoilt();
        ownOrParityIsSpoilt();
        sameAgain();
        logOfParitysPlace();
        powerLostWithAHurtColumn();
        throughSpares();
        Due.end();
    }

    private static void isWritten(String when, Field x, int block, int writes) {
        int before = x.look(Racks.WRITES);
        Due.is(when + ": write", Racks.write(x, block, 77), true);
        Due.is(when + ": writes", x.look(Racks.WRITES), before + writes);
        Racks.read(when, x, x.blocks, b -> b == block ? 77 : 1000 + b);
    }

    private static void blockIsLost() {
        Due.sentence("if it is lost: parity becomes the xor of the other data, as they are read, and the new one (1 write).");
        Field x = Racks.six();
        x.fail(0);
        isWritten("block 0 is lost", x, 0, 1);
        Due.is("it stays lost", x.place(0, 0), -1);
        Field y = Racks.six();
        y.fail(1);
        isWritten("block 1 is lost", y, 1, 1);
        y.replace(1);
        isWritten("its home is blank", y, 1, 1);
        Due.is("it stays lost", y.place(0, 1), -1);
    }

    private static void blockIsLostWide() {
        Due.sentence("parity becomes the xor of the other data, as they are read, and the new one");
        for (int column = 0; column < 7; column++) {
            Field x = new Field(9, 8, 48);
            Racks.fill(x, 7);
            x.fail(column);
            int lost = column;
            Racks.write(x, column, 77);
            Racks.read("column " + column + " of 8", x, 7, b -> b == lost ? 77 : 1000 + b);
            x.replace(column);
            Due.is("copy back", x.copyBack(), 1);
            Racks.read("copied back", x, 7, b -> b == lost ? 77 : 1000 + b);
        }
    }

    private static void parityIsLost() {
        Due.sentence("If parity is lost: the place of j is written (1 write).");
        Field x = Racks.six();
        x.fail(2);
        isWritten("parity is lost", x, 0, 1);
        x.replace(2);
        isWritten("parity is blank", x.twin(), 0, 1);
        Due.is("copy back", x.copyBack(), 1);
        x.fail(0);
        Due.is("parity fits", x.read(0, 0), 77);
        // Position 0 of row 0 is in a spare while parity is lost.
        Field y = Racks.rebuilt();
        y.fail(2);
        isWritten("parity is lost, the block is in a spare", y, 0, 1);
        y.off();
        Due.is("the spare has its tag", y.place(0, 0), 3);
    }

    private static void allAreThere() {
        Due.sentence("the log becomes 0s with tag 0 (4 writes).");
        for (int width = 3; width <= 8; width++) {
            for (int block = 0; block < width - 1; block++) {
                Field x = new Field(10, width, 48);
                Racks.fill(x, width - 1);
                int before = x.look(Racks.WRITES);
                Racks.write(x, block, 77);
                Due.is("writes", x.look(Racks.WRITES), before + 4);
                int b = block;
                Racks.read("written", x, width - 1, c -> c == b ? 77 : 1000 + c);
                x.fail(block);
                Racks.read("reckoned", x, width - 1, c -> c == b ? 77 : 1000 + c);
                Racks.offAndOpen(x);
                Due.is("no log is left", x.look(Racks.WRITES), before + 4);
            }
        }
    }

    private static void otherIsLostOrSpoilt() {
        Due.sentence("Otherwise, with PP the xor of the other data, as they are read");
        Field lost = Racks.six();
        lost.fail(1);
        isWritten("the other is lost", lost, 0, 4);
        Field blank = Racks.six();
        blank.fail(1);
        blank.replace(1);
        isWritten("the other is blank", blank, 0, 4);
        Field spoilt = Racks.six();
        spoilt.spoil(1, 0, 3, 1, 1);
        isWritten("the other is spoilt", spoilt, 0, 4);
        Due.is("it stays spoilt", spoilt.look(Racks.SPOILT), 1);
    }

    private static void ownOrParityIsSpoilt() {
        Due.sentence("the place of j is written; parity becomes PP xor the new one");
        for (int disk = 0; disk <= 2; disk += 2) {
            Field x = Racks.six();
            x.spoil(disk, 0, 3, 1, 1);
            isWritten("disk " + disk + " has a spoilt cell", x, 0, 4);
            Due.is("it is right again", x.look(Racks.SPOILT), 0);
            x.fail(0);
            Due.is("reckoned", x.read(0, 0), 77);
        }
    }

    private static void sameAgain() {
        Due.sentence("the log becomes 0s with tag 0 (4 writes).");
        Field x = Racks.six();
        int before = x.look(Racks.WRITES);
        Racks.write(x, 0, 1000);
        Due.is("the same bytes are written all the same", x.look(Racks.WRITES), before + 4);
        x.write(0);
        Due.is("and an empty tape", x.look(Racks.WRITES), before + 8);
        Due.is("0s", x.read(0, 0), 0);
    }

    /** In row 4 parity, whose home is on disk 0, is in a spare on disk 1. */
    private static void logOfParitysPlace() {
        Due.sentence("the log of the disk on which parity's place lies becomes PP, with its tag");
        for (int failing = 1; failing < 6; failing++) {
            Field x = Racks.rebuilt();
            Due.is("parity's place", x.place(4, 2), 1);
            Racks.cutWrite(x, 8, 5, 3);
            int before = x.look(Racks.WRITES);
            Due.is("fail", x.fail(failing), true);
            Due.is("open", x.open(), true);
            // Disk 4 has the block itself.
            int want = failing == 1 ? 0 : failing == 4 ? 1 : 2;
            Due.is("writes of opening, disk " + failing + " failed", x.look(Racks.WRITES), before + want);
            Due.is("the block", x.read(8, 0), failing == 4 ? 1008 : 5);
            Due.is("the other", x.read(9, 0), 1009);
        }
    }

    private static void powerLostWithAHurtColumn() {
        Due.sentence("with PP the xor of the other data, as they are read: the log of the disk on which parity's place lies becomes PP");
        for (int disk = 0; disk < 3; disk++) {
            for (int n = 1; n <= 4; n++) {
                for (int way = 0; way < 2; way++) {
                    Field x = Racks.six();
                    boolean lost = way == 0;
                    Due.is("hurt", lost ? x.fail(disk) : x.spoil(disk, 0, 0, 8, 77), true);
                    boolean done = Racks.cutWrite(x, 0, 101, n);
                    Due.is("write", done, lost && disk != 1 && n > 1);
                    if (!done) {
                        Due.is("open", x.open(), true);
                    }
                    String when = "disk " + disk + (lost ? " lost" : " spoilt") + ", power lost at " + n;
                    Due.is(when + ": the block", x.read(0, 0), n > 2 || done ? 101 : 1000);
                    Due.is(when + ": the other", x.read(1, 0), 1001);
                }
            }
        }
    }

    private static void throughSpares() {
        Due.sentence("the place of j is written");
        Field x = Racks.rebuilt();
        isWritten("the block is in a spare", x, 0, 4);
        x.off();
        Due.is("the spare has its tag", x.place(0, 0), 3);
        x.open();
        x.fail(1);
        Due.is("the other, reckoned", x.read(1, 0), 1001);
        Field y = Racks.rebuilt();
        isWritten("parity is in a spare", y, 8, 4);
        y.off();
        Due.is("the spare has its tag", y.place(4, 2), 1);
        Field z = Racks.rebuilt();
        isWritten("the other is in a spare", z, 1, 4);
    }
}
