/** Terms: a step of copying back. */
public final class TermsCopyBackTest {
    public static void main(String[] args) {
        firstPosition();
        liveAndBlank();
        sparesStayBlank();
        lost();
        fromASpare();
        spoiltSpare();
        spareBecomesZeros();
        Due.end();
    }

    private static void firstPosition() {
        Due.sentence("COPY BACK, a step: the first position whose home's disk is live and home cell blank");
        Field x = Racks.rebuilt();
        x.replace(0);
        int[][] inTurn = {{0, 0}, {1, 1}, {4, 2}, {6, 0}, {7, 1}, {10, 2}};
        for (int[] p : inTurn) {
            Due.is("in a spare", x.place(p[0], p[1]) > 0, true);
            Due.is("a step", x.copyBack(), 1);
            Due.is("home, row " + p[0], x.place(p[0], p[1]), 0);
        }
        Due.is("the next is in a spare still", x.place(12, 0), 3);
        // Of two in a row the first position comes first.
        Field nine = new Field(9, 3, 48);
        nine.fail(5);
        nine.fail(2);
        nine.replace(5);
        nine.replace(2);
        nine.copyBack();
        Due.is("position 2", nine.place(0, 2), 2);
        Due.is("not position 5", nine.place(0, 5), -1);
        nine.copyBack();
        Due.is("position 5", nine.place(0, 5), 5);
    }

    private static void liveAndBlank() {
        Due.sentence("whose home's disk is live and home cell blank");
        Field x = Racks.six();
        Due.is("no cell is blank", x.copyBack(), 0);
        x.spoil(0, 0, 0, 1, 1);
        Due.is("a spoilt one is not", x.copyBack(), 0);
        Field y = Racks.rebuilt();
        Due.is("the disk is failed", y.copyBack(), 0);
        // Of two failed disks one is live again: row 0 is passed over.
        Field z = Racks.six();
        z.fail(0);
        z.fail(3);
        z.replace(3);
        Due.is("a step", z.copyBack(), 1);
        Due.is("row 0, on disk 0", z.place(0, 0), -1);
        Due.is("row 2, on disk 3", z.place(2, 1), 3);
    }

    private static void sparesStayBlank() {
        Due.sentence("the first position whose home's disk is live and home cell blank");
        Field x = Racks.six();
        x.fail(0);
        x.replace(0);
        int writes = x.look(Racks.WRITES);
        Due.is("its 24 positions of stripes", Racks.all(x::copyBack), 24);
        Due.is("its 24 spares are not copied", x.copyBack(), 0);
        Due.is("one write each", x.look(Racks.WRITES), writes + 24);
        Due.is("they are free", x.look(Racks.FREE), 48 * 3);
    }

    private static void lost() {
        Due.sentence("it is read (reckoned, if it is lost) and written there (1 write): that is its place");
        for (int disk = 0; disk < 6; disk++) {
            Field x = Racks.six();
            x.fail(disk);
            x.replace(disk);
            int writes = x.look(Racks.WRITES);
            Due.is("a step", x.copyBack(), 1);
            Due.is("one write", x.look(Racks.WRITES), writes + 1);
            Due.is("lost", x.look(Racks.LOST), 23);
            Due.is("the others", Racks.all(x::copyBack), 23);
            Due.is("none is lost", x.look(Racks.LOST), 0);
            Racks.areFilled("copied back", x, x.blocks);
            Field twin = x.twin();
            Due.is("another disk may fail", twin.fail((disk + 1) % 6), true);
            Racks.areFilled("reckoned with them", twin, x.blocks);
        }
    }

    private static void fromASpare() {
        Due.sentence("if it had a spare, that becomes 0s with tag 0 (1 write).");
        Field x = Racks.rebuilt();
        x.replace(0);
        int writes = x.look(Racks.WRITES);
        int free = x.look(Racks.FREE);
        Due.is("a step", x.copyBack(), 1);
        Due.is("two writes", x.look(Racks.WRITES), writes + 2);
        Due.is("the spare is free", x.look(Racks.FREE), free + 1);
        Due.is("home", x.place(0, 0), 0);
        Racks.areFilled("copied back", x, x.blocks);
    }

    private static void spoiltSpare() {
        Due.sentence("it is read (reckoned, if it is lost) and written there");
        for (int at : new int[] {0, 63, 64, 69}) {
            Field x = Racks.rebuilt();
            x.replace(0);
            x.spoil(3, 0, at, 1, 0x12);
            int writes = x.look(Racks.WRITES);
            Due.is("a step", x.copyBack(), 1);
            Due.is("two writes", x.look(Racks.WRITES), writes + 2);
            Due.is("none is spoilt", x.look(Racks.SPOILT), 0);
            Due.is("the block", x.read(0, 0), 1000);
        }
    }

    private static void spareBecomesZeros() {
        Due.sentence("that becomes 0s with tag 0 (1 write).");
        Field x = Racks.rebuilt();
        x.replace(0);
        Racks.all(x::copyBack);
        int writes = x.look(Racks.WRITES);
        Racks.offAndOpen(x);
        Due.is("opening finds no tag", x.look(Racks.WRITES), writes);
        x.fail(0);
        x.off();
        Due.is("nor any position in a spare", x.look(Racks.LOST), 24);
    }
}
