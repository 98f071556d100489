/** Terms: the rack, its disks and its cells. */
public final class TermsRackTest {
    public static void main(String[] args) {
        smallestAndLargest();
        offsets();
        seventyBytes();
        failedDiskHasNoCells();
        replacedDiskIsBlank();
        blankLog();
        blankTillWritten();
        checkOfTheBytesBefore();
        checkIsRight();
        Due.end();
    }

    private static void smallestAndLargest() {
        Due.sentence("THE RACK has DISKS d, 6 .. 16 of them, each LIVE or FAILED");
        for (int disks : new int[] {6, 16}) {
            for (int disk : new int[] {0, disks - 1}) {
                Field x = new Field(disks, 3, 64);
                Due.is("live", x.look(Racks.LIVE), disks);
                Due.is("fail", x.fail(disk), true);
                Due.is("one is failed", x.look(Racks.LIVE), disks - 1);
                Due.is("replace", x.replace(disk), true);
                Due.is("live again", x.look(Racks.LIVE), disks);
            }
        }
    }

    private static void offsets() {
        Due.sentence("with CELLS at OFFSETS 0 .. ROWS (ROWS 48 .. 64).");
        for (int rows : new int[] {48, 64}) {
            Field x = new Field(6, 3, rows);
            Due.is("offset 0", x.spoil(0, 0, 0, 1, 1), true);
            Due.is("the last row's", x.spoil((rows - 1) % 6, rows - 1, 0, 1, 1), true);
            Due.argument("the log's", x, () -> x.spoil(0, rows, 0, 1, 1));
            // Power lost behind the log's write: opening finds it there.
            Racks.cutWrite(x, 10, 1, 2);
            x.open();
            Due.is("the log, parity and the log again", x.look(Racks.WRITES), 3);
        }
    }

    private static void seventyBytes() {
        Due.sentence("A cell has 64 bytes, a TAG (two bytes, lowest first) and a CHECK (four bytes, lowest first): 70 bytes.");
        Field x = Racks.six();
        for (int at = 0; at < 70; at++) {
            x.spoil(0, 0, at, 1, 255);
            Due.is("byte " + at + " is one of the cell", x.look(Racks.SPOILT), 1);
            x.spoil(0, 0, at, 1, 255);
        }
        Due.argument("byte 70 is none", x, () -> x.spoil(0, 0, 70, 1, 255));
        // The lowest byte of the tag and that of the check come first: other orders would be spoilt.
        for (int bit = 0; bit < 16; bit++) {
            long mask = 1L << bit | Racks.checkMask(64, 2, 1L << bit) << 16;
            Due.is("bit " + bit + " of the tag with its check", x.spoil(0, 0, 64, 6, mask), false);
        }
        Due.is("none is spoilt", x.look(Racks.SPOILT), 0);
    }

    /** Disk 0 has in row 0 position 0, in row 2 a spare. */
    private static void failedDiskHasNoCells() {
        Due.sentence("a disk that is failed has no cells");
        Field x = Racks.six();
        x.fail(0);
        for (int row = 0; row < 48; row++) {
            Due.is("no place in row " + row, x.spoil(0, row, 0, 1, 1), false);
            for (int position = 0; position < 3; position++) {
                Due.is("nor any found", x.place(row, position) == 0, false);
            }
        }
        Due.is("no free spares", x.look(Racks.FREE), 48 * 3 - 24);
        // Power lost with a log written on disk 2, which fails then.
        Field y = Racks.six();
        Racks.cutWrite(y, 0, 5, 2);
        int writes = y.look(Racks.WRITES);
        y.fail(2);
        y.open();
        Due.is("no log", y.look(Racks.WRITES), writes);
    }

    private static void replacedDiskIsBlank() {
        Due.sentence("one that is replaced is live, and all its cells are blank.");
        Field x = Racks.six();
        x.fail(0);
        x.replace(0);
        Due.is("live", x.look(Racks.LIVE), 6);
        for (int row = 0; row < 48; row++) {
            Due.is("the cell of row " + row + " is no place", x.spoil(0, row, 0, 1, 1), false);
        }
        Due.is("lost", x.look(Racks.LOST), 24);
        x.off();
        Due.is("opening finds none of them", x.look(Racks.LOST), 24);
        x.open();
        Due.is("all are to be copied back", Racks.all(x::copyBack), 24);
        // A spare that has a position is blank too when its disk, 3, was replaced.
        Field y = Racks.rebuilt();
        y.fail(3);
        y.replace(3);
        y.off();
        Due.is("the spare is not found", y.place(0, 0), -1);
    }

    private static void blankLog() {
        Due.sentence("all its cells are blank.");
        Field x = Racks.six();
        Racks.cutWrite(x, 0, 5, 3);
        int writes = x.look(Racks.WRITES);
        x.fail(2);
        x.replace(2);
        x.open();
        Due.is("opening has no log", x.look(Racks.WRITES), writes);
        Due.is("the block", x.read(0, 0), 5);
        Due.is("copy back parity", x.copyBack(), 1);
        Due.is("write by that log", Racks.write(x, 0, 6), true);
        Due.is("four writes", x.look(Racks.WRITES), writes + 5);
        x.fail(0);
        Due.is("reckoned", x.read(0, 0), 6);
    }

    private static void blankTillWritten() {
        Due.sentence("It is BLANK till it is WRITTEN");
        Field x = Racks.six();
        x.fail(0);
        x.replace(0);
        Due.is("blank", x.place(0, 0), -1);
        x.copyBack();
        x.off();
        Due.is("written", x.place(0, 0), 0);
        Due.is("the next is blank still", x.place(1, 1), -1);
        x.open();
        Due.is("to copy back", x.copyBack(), 1);
        Due.is("not the first again, but the next", x.place(1, 1), 0);
        // A blank spare, of row 2 on disk 0, is written by rebuilding.
        Field y = Racks.six();
        y.fail(5);
        y.fail(2);
        y.replace(5);
        Racks.all(y::rebuild);
        Due.is("row 2, its first spare was blank", y.place(2, 0), 5);
        y.off();
        Due.is("it is found", y.place(2, 0), 5);
    }

    /** A byte of the 66 and the check's bytes that fit to it make another valid cell, which is not allowed. */
    private static void checkOfTheBytesBefore() {
        Due.sentence("CHECK of the 66 bytes before: v = all 32 bits 1; for each byte: v = v xor byte, then eight times: v becomes v "
            + "shifted down by 1 (with a 0), xor 2197175160 if the bit that fell out was 1; at last all bits of v turned.");
        for (int bit = 0; bit < 8; bit++) {
            Field x = Racks.six();
            for (int at = 0; at < 66; at++) {
                long check = Racks.checkMask(at, 1, 1L << bit);
                Due.is("byte " + at, x.spoil(0, 0, at, 1, 1L << bit), true);
                Due.is("the check that fits to byte " + at, x.spoil(0, 0, 66, 4, check), false);
                Due.is("byte " + at + " back", x.spoil(0, 0, at, 1, 1L << bit), true);
            }
        }
        Field x = Racks.six();
        Due.is("a check that fits to another byte", x.spoil(0, 0, 0, 1, 1), true);
        Due.is("is not right", x.spoil(0, 0, 66, 4, Racks.checkMask(1, 1, 1)), true);
    }

    private static void checkIsRight() {
        Due.sentence("A cell is VALID if it is written and its check is right.");
        Field x = Racks.six();
        for (int bit = 0; bit < 32; bit++) {
            x.spoil(0, 0, 66, 4, 1L << bit);
            Due.is("bit " + bit + " of the check is wrong", x.look(Racks.SPOILT), 1);
            Due.is("so it is reckoned", x.read(0, 0), 1000);
            x.spoil(0, 0, 66, 4, 1L << bit);
            Due.is("and right again", x.look(Racks.SPOILT), 0);
        }
        x.fail(0);
        x.replace(0);
        Due.is("one that is not written is no valid one", x.read(0, 0), 1000);
        Due.is("nor a spoilt one", x.look(Racks.SPOILT), 0);
        Due.is("but lost", x.look(Racks.LOST), 24);
    }
}
