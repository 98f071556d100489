/** Terms: events that are refused. In row 0 of six() the stripe lies on the disks 0, 1 and 2, the spares on 3, 4 and 5. */
public final class TermsRefusedTest {
    public static void main(String[] args) {
        twoSpoilt();
        oneLostAndOneSpoilt();
        oneSpoiltAndOneLost();
        twoLost();
        oneCellCountsOnce();
        ofOneStripe();
        positionsInSpares();
        cellsThatAreNoPlaces();
        onesThatAreRightAgain();
        whileOff();
        whileOffCountsAsLost();
        Due.end();
    }

    private static void twoSpoilt() {
        Due.sentence("EVENTS that would leave two cells of one stripe lost or spoilt are REFUSED");
        for (int first = 0; first < 3; first++) {
            for (int second = 0; second < 3; second++) {
                Field x = Racks.six();
                x.spoil(first, 0, 0, 1, 1);
                Due.is("disk " + first + ", then " + second, x.spoil(second, 0, 1, 1, 1), first == second);
                Due.is("one is spoilt", x.look(Racks.SPOILT), 1);
            }
        }
    }

    private static void oneLostAndOneSpoilt() {
        Due.sentence("two cells of one stripe lost or spoilt are REFUSED");
        for (int lost = 0; lost < 3; lost++) {
            for (int disk = 0; disk < 3; disk++) {
                Field x = Racks.six();
                x.fail(lost);
                Due.is("disk " + lost + " failed, spoil on " + disk, x.spoil(disk, 0, 0, 1, 1), false);
                x.replace(lost);
                Due.is("disk " + lost + " blank, spoil on " + disk, x.spoil(disk, 0, 0, 1, 1), false);
                Due.is("none is spoilt", x.look(Racks.SPOILT), 0);
            }
        }
    }

    private static void oneSpoiltAndOneLost() {
        Due.sentence("two cells of one stripe lost or spoilt are REFUSED");
        for (int spoilt = 0; spoilt < 3; spoilt++) {
            for (int disk = 0; disk < 6; disk++) {
                Field x = Racks.six();
                x.spoil(spoilt, 0, 0, 1, 1);
                boolean refused = disk < 3 && disk != spoilt;
                Due.is("disk " + spoilt + " spoilt, " + disk + " fails", x.fail(disk), !refused);
                Due.is("live", x.look(Racks.LIVE), refused ? 6 : 5);
            }
        }
    }

    /** A pair of disks has a stripe together unless they are 0 and 3, 1 and 4, or 2 and 5. */
    private static void twoLost() {
        Due.sentence("for a disk that fails all positions count as lost whose places lie on it");
        for (int first = 0; first < 6; first++) {
            for (int second = 0; second < 6; second++) {
                if (first != second) {
                    Field x = Racks.six();
                    x.fail(first);
                    boolean apart = (first + 3) % 6 == second;
                    Due.is(first + " failed, then " + second, x.twin().fail(second), apart);
                    x.replace(first);
                    Due.is(first + " blank, then " + second, x.fail(second), apart);
                }
            }
        }
        Field x = Racks.six();
        x.fail(0);
        Due.is("all but one row are rebuilt", x.rebuild() + x.rebuild(), 2);
        for (int i = 2; i < 23; i++) {
            x.rebuild();
        }
        Due.is("one is lost", x.look(Racks.LOST), 1);
        Due.is("it is in row 46, with disk 4", x.twin().fail(4), false);
        Due.is("and disk 5", x.twin().fail(5), false);
        Due.is("not with disk 2", x.twin().fail(2), true);
        x.rebuild();
        Due.is("the last one is rebuilt", x.fail(4), true);
    }

    private static void oneCellCountsOnce() {
        Due.sentence("would leave two cells of one stripe lost or spoilt");
        Field x = Racks.six();
        x.spoil(0, 0, 0, 1, 1);
        Due.is("the disk of the spoilt cell fails", x.fail(0), true);
        x.replace(0);
        Due.is("the blank one fails again", x.fail(0), true);
        Field y = Racks.six();
        for (int at = 0; at < 70; at++) {
            Due.is("spoilt, and spoilt more", y.spoil(0, 0, at, 1, 1), true);
        }
    }

    /** With 7 disks and width 3 row 0 has two stripes: on the disks 0, 1, 2 and on 3, 4, 5. */
    private static void ofOneStripe() {
        Due.sentence("two cells of one stripe");
        Field x = new Field(7, 3, 48);
        Due.is("stripe 0", x.spoil(2, 0, 0, 1, 1), true);
        Due.is("stripe 1 of the same row", x.spoil(3, 0, 0, 1, 1), true);
        Due.is("stripe 0 once more", x.spoil(1, 0, 0, 1, 1), false);
        Due.is("stripe 1 once more", x.spoil(4, 0, 0, 1, 1), false);
        Due.is("another row", x.spoil(1, 1, 0, 1, 1), true);
    }

    /** In row 0 position 0 is in a spare on disk 3, which has stripes with the disks 1, 2, 4 and 5. */
    private static void positionsInSpares() {
        Due.sentence("all positions count as lost whose places lie on it");
        Field x = Racks.rebuilt();
        x.spoil(1, 0, 0, 1, 1);
        Due.is("a spare of that stripe is on disk 3", x.fail(3), false);
        Field y = Racks.rebuilt();
        y.spoil(3, 0, 0, 1, 1);
        Due.is("the spare is spoilt: its own disk", y.twin().fail(3), true);
        Due.is("another disk of that stripe", y.twin().fail(1), false);
        Due.is("another cell of that stripe", y.spoil(1, 0, 0, 1, 1), false);
        Field z = Racks.rebuilt();
        Due.is("fail", z.fail(3), true);
        Due.is("position 0 of row 0 is lost, 1 is on disk 1", z.fail(1), false);
    }

    private static void cellsThatAreNoPlaces() {
        Due.sentence("all positions count as lost whose places lie on it");
        Field x = Racks.six();
        x.spoil(0, 0, 0, 1, 1);
        Due.is("a free spare of that row is on disk 4", x.fail(4), true);
        // The home on disk 0 is blank, and its position in a spare on disk 3.
        Field y = Racks.rebuilt();
        y.replace(0);
        y.spoil(1, 0, 0, 1, 1);
        Due.is("a blank home is no place", y.fail(0), true);
    }

    private static void onesThatAreRightAgain() {
        Due.sentence("would leave two cells of one stripe lost or spoilt");
        Field undone = Racks.six();
        undone.spoil(0, 0, 0, 1, 1);
        undone.spoil(0, 0, 0, 1, 1);
        Due.is("undone", undone.spoil(1, 0, 0, 1, 1), true);
        Field scrubbed = Racks.six();
        scrubbed.spoil(0, 0, 0, 1, 1);
        scrubbed.scrub();
        Due.is("scrubbed", scrubbed.fail(1), true);
        Field written = Racks.six();
        written.spoil(0, 0, 0, 1, 1);
        Racks.write(written, 0, 5);
        Due.is("written", written.fail(1), true);
        Field copied = Racks.six();
        copied.fail(0);
        copied.replace(0);
        Racks.all(copied::copyBack);
        Due.is("copied back", copied.fail(1), true);
    }

    private static void whileOff() {
        Due.sentence("(while it is off, the places are those that opening would find)");
        Field x = Racks.six();
        x.fail(0);
        x.off();
        Due.is("lost and lost", x.fail(1), false);
        Due.is("apart", x.fail(3), true);
        Field spoilt = Racks.six();
        spoilt.spoil(0, 0, 0, 1, 1);
        spoilt.off();
        Due.is("a spoilt home and a lost one", spoilt.twin().fail(1), false);
        Due.is("its own disk", spoilt.fail(0), true);
        // A spoilt spare is not found: its position is lost, and its disk has no more to do with it.
        Field spare = Racks.rebuilt();
        spare.spoil(3, 0, 0, 1, 1);
        spare.off();
        Due.is("another disk of its stripe", spare.twin().fail(1), false);
        Due.is("its own disk", spare.fail(3), true);
    }

    private static void whileOffCountsAsLost() {
        Due.sentence("for a disk that fails all positions count as lost whose places lie on it (while it is off, the places are those "
            + "that opening would find).");
        // The home on disk 0 is the place, though its spare would be found without it.
        Field x = Racks.rebuilt();
        x.spoil(1, 0, 0, 1, 1);
        x.replace(0);
        x.lose(2);
        x.copyBack();
        Due.is("home is the place", x.place(0, 0), 0);
        Due.is("it counts as lost, beside the spoilt one", x.fail(0), false);
        Due.is("and stays where it is", x.place(0, 0), 0);
        // Nothing is asked between the two that fail: by itself it knows that the spare is found.
        Field y = Racks.withAStaleSpare();
        Due.is("with none spoilt", y.fail(0), true);
        Due.is("another disk of its stripe may fail then", y.fail(1), true);
        Due.is("the spare is the place", y.place(0, 0), 3);
        y.open();
        Racks.areFilled("opened", y, y.blocks);
    }
}
