/** Terms: a step of rebuilding. */
public final class TermsRebuildTest {
    public static void main(String[] args) {
        firstByRows();
        lostAlone();
        homesDiskIsFailed();
        rowsWithoutAFreeSpare();
        firstSpare();
        nextSpare();
        blankAndSpoiltSpares();
        isItsPlace();
        Due.end();
    }

    /** Disk 0 has position 0 in row 0, 1 in row 1 and 2 in row 4. */
    private static void firstByRows() {
        Due.sentence("REBUILD, a step: the first position, by rows, that is lost");
        Field x = Racks.six();
        x.fail(0);
        int[][] inTurn = {{0, 0}, {1, 1}, {4, 2}, {6, 0}, {7, 1}, {10, 2}};
        for (int i = 0; i < inTurn.length; i++) {
            Due.is("lost", x.place(inTurn[i][0], inTurn[i][1]), -1);
            Due.is("a step", x.rebuild(), 1);
            Due.is("row " + inTurn[i][0], x.place(inTurn[i][0], inTurn[i][1]) >= 0, true);
            Due.is("and no other", x.look(Racks.LOST), 23 - i);
        }
        Field last = Racks.six();
        last.fail(0);
        Due.is("all", Racks.all(last::rebuild), 24);
        Due.is("the last row with disk 0", last.place(46, 2), 1);
        // Two lost ones in a row, of two stripes: the first position comes first.
        Field nine = new Field(9, 3, 48);
        nine.fail(5);
        nine.fail(2);
        Due.is("both are lost", nine.place(0, 2) + nine.place(0, 5), -2);
        Due.is("rebuild", nine.rebuild(), 1);
        Due.is("position 2", nine.place(0, 2), 6);
        Due.is("not position 5", nine.place(0, 5), -1);
    }

    private static void lostAlone() {
        Due.sentence("that is lost");
        Field x = Racks.six();
        x.spoil(0, 0, 0, 1, 1);
        Due.is("a spoilt one is not rebuilt", x.rebuild(), 0);
        Field y = Racks.rebuilt();
        Due.is("nor one that is in a spare", y.rebuild(), 0);
        y.spoil(3, 0, 0, 1, 1);
        Due.is("nor one in a spare that is spoilt", y.rebuild(), 0);
        Racks.offAndOpen(y);
        Due.is("not found, it is lost", y.rebuild(), 1);
    }

    private static void homesDiskIsFailed() {
        Due.sentence("whose home's disk is failed");
        Field x = Racks.six();
        x.fail(0);
        x.rebuild();
        x.replace(0);
        Due.is("home's disk is live", x.rebuild(), 0);
        Due.is("lost", x.look(Racks.LOST), 23);
        // Of two disks one is replaced: the other one's positions are rebuilt.
        Field y = Racks.six();
        y.fail(0);
        y.fail(3);
        y.replace(0);
        Due.is("a step", y.rebuild(), 1);
        Due.is("row 0, on disk 0, is passed over", y.place(0, 0), -1);
        Due.is("row 2, on disk 3", y.place(2, 1), 5);
        // The disk of a spare failed, its home's is live by then.
        Field z = Racks.rebuilt();
        z.replace(0);
        z.fail(3);
        Due.is("lost", z.place(0, 0), -1);
        z.rebuild();
        Due.is("it is for copying back", z.place(0, 0), -1);
    }

    /** With 7 disks and width 3 a row has one spare: on disk 6 in the rows 0 to 5, then on 5, 4, 3, 2, 1, 0, and 6 again. */
    private static void rowsWithoutAFreeSpare() {
        Due.sentence("and whose row has a free spare on a live disk");
        Field x = new Field(7, 3, 48);
        Racks.fill(x, 24);
        x.fail(0);
        Due.is("a step for each row but six", Racks.all(x::rebuild), 42);
        Due.is("fail", x.fail(1), true);
        Due.is("spares are places, or on failed disks", x.rebuild(), 0);
        Racks.areFilled("full", x, 24);
        int lost = x.look(Racks.LOST);
        x.replace(0);
        Due.is("the spares on disk 0 are there, blank", x.rebuild(), 1);
        Due.is("one less is lost", x.look(Racks.LOST), lost - 1);
        int place = -1;
        for (int p = 0; p < 6; p++) {
            place = Math.max(place, x.place(36, p) == 0 ? 0 : -1);
        }
        Due.is("row 36 is the first with one", place, 0);
        Due.is("five rows more", Racks.all(x::rebuild), 5);
        Racks.areFilled("rebuilt", x, 24);
    }

    private static void firstSpare() {
        Due.sentence("the first such spare written (1 write)");
        Field x = Racks.six();
        x.fail(0);
        int writes = x.look(Racks.WRITES);
        x.rebuild();
        Due.is("position 3 of row 0", x.place(0, 0), 3);
        Due.is("one write", x.look(Racks.WRITES), writes + 1);
        x.rebuild();
        Due.is("position 3 of row 1", x.place(1, 1), 4);
        x.rebuild();
        Due.is("position 3 of row 4", x.place(4, 2), 1);
        // The first spare of row 0 is on a failed disk.
        Field y = Racks.six();
        y.fail(3);
        y.fail(0);
        y.rebuild();
        Due.is("position 4 of row 0", y.place(0, 0), 4);
    }

    private static void nextSpare() {
        Due.sentence("a free spare on a live disk");
        Field x = Racks.rebuilt();
        x.fail(1);
        x.rebuild();
        Due.is("position 3 is a place: position 4", x.place(0, 1), 4);
        Due.is("which stays", x.place(0, 0), 3);
        Racks.all(x::rebuild);
        Due.is("none is lost", x.look(Racks.LOST), 0);
        Due.is("fail", x.fail(2), true);
        x.rebuild();
        Due.is("position 5, the last", x.place(0, 2), 5);
        Racks.areFilled("three disks failed", x, x.blocks);
    }

    private static void blankAndSpoiltSpares() {
        Due.sentence("whose row has a free spare on a live disk");
        Field blank = Racks.six();
        blank.fail(3);
        blank.fail(0);
        blank.replace(3);
        blank.rebuild();
        Due.is("a blank one is free", blank.place(0, 0), 3);
        Field spoilt = Racks.rebuilt();
        spoilt.spoil(3, 0, 0, 8, -1L);
        Racks.offAndOpen(spoilt);
        spoilt.rebuild();
        Due.is("one that is not valid is free", spoilt.place(0, 0), 3);
        Due.is("written, it is valid", spoilt.look(Racks.SPOILT), 0);
        Racks.areFilled("rebuilt", spoilt, spoilt.blocks);
    }

    private static void isItsPlace() {
        Due.sentence("it is reckoned, and the first such spare written (1 write): that is its place.");
        Field x = Racks.rebuilt();
        for (int round = 0; round < 2; round++) {
            Racks.areFilled("in spares", x, x.blocks);
            Due.is("none is lost", x.look(Racks.LOST), 0);
            Due.is("the next disk may fail", x.twin().fail(1), true);
            Racks.offAndOpen(x);
        }
        x.fail(1);
        Racks.areFilled("reckoned with them", x, x.blocks);
        // Parity is rebuilt as well as data.
        Field y = Racks.six();
        y.fail(2);
        y.rebuild();
        Due.is("parity", y.place(0, 2), 3);
        y.spoil(0, 0, 0, 1, 1);
        Due.is("reckoned with it", y.read(0, 0), 1000);
    }
}
