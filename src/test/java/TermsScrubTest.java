/** Terms: a step of scrubbing. */
public final class TermsScrubTest {
    public static void main(String[] args) {
        atFirst();
        behindAnOpening();
        behindTheLast();
        spoiltCell();
        spoiltSpare();
        oneStripeAlone();
        lostCell();
        noHoles();
        Due.end();
    }

    private static void atFirst() {
        Due.sentence("SCRUB, a step: the NEXT stripe (0 at first");
        Field x = new Field(7, 3, 48);
        Due.is("next", x.look(Racks.NEXT), 0);
        x.spoil(x.place(0, 0), 0, 0, 1, 1);
        Due.is("stripe 0", x.scrub(), 1);
        Due.is("next", x.look(Racks.NEXT), 1);
        x.spoil(x.place(0, 3), 0, 0, 1, 1);
        Due.is("stripe 1", x.scrub(), 1);
        Due.is("next", x.look(Racks.NEXT), 2);
        x.spoil(x.place(1, 0), 1, 0, 1, 1);
        Due.is("stripe 2", x.scrub(), 1);
    }

    private static void behindAnOpening() {
        Due.sentence("and behind an opening");
        for (int steps = 0; steps <= 3; steps++) {
            Field x = Racks.six();
            for (int s = 0; s < steps; s++) {
                x.scrub();
            }
            Racks.offAndOpen(x);
            Due.is("next", x.look(Racks.NEXT), 0);
            x.spoil(0, 0, 0, 1, 1);
            Due.is("stripe 0", x.scrub(), 1);
        }
        Field x = Racks.six();
        x.scrub();
        x.scrub();
        Racks.cutWrite(x, 0, 5, 3);
        x.lose(1);
        x.open();
        x.open();
        Due.is("next, power lost in an opening before", x.look(Racks.NEXT), 0);
    }

    private static void behindTheLast() {
        Due.sentence("behind the last one 0)");
        for (int[] sizes : new int[][] {{6, 3, 48}, {7, 3, 48}, {16, 8, 64}, {16, 3, 64}}) {
            Field x = new Field(sizes[0], sizes[1], sizes[2]);
            for (int s = 0; s < x.stripes - 1; s++) {
                x.scrub();
            }
            Due.is("the last one", x.look(Racks.NEXT), x.stripes - 1);
            x.spoil(x.place(x.rows - 1, x.positions - 1), x.rows - 1, 0, 1, 1);
            Due.is("the last one", x.scrub(), 1);
            Due.is("behind it", x.look(Racks.NEXT), 0);
            x.spoil(x.place(0, 0), 0, 0, 1, 1);
            Due.is("stripe 0 again", x.scrub(), 1);
            Due.is("next", x.look(Racks.NEXT), 1);
        }
    }

    private static void spoiltCell() {
        Due.sentence("if a cell of it is spoilt, it is reckoned and written (1 write)");
        for (int column = 0; column < 3; column++) {
            for (int at : new int[] {0, 20, 63, 64, 65, 66, 69}) {
                Field x = Racks.six();
                int writes = x.look(Racks.WRITES);
                x.spoil(column, 0, at, 1, 255);
                Due.is("scrub", x.scrub(), 1);
                Due.is("one write", x.look(Racks.WRITES), writes + 1);
                Due.is("none is spoilt", x.look(Racks.SPOILT), 0);
                Due.is("holes", x.look(Racks.HOLES), 0);
                Racks.areFilled("scrubbed", x, 2);
                x.fail((column + 1) % 3);
                Racks.areFilled("reckoned with what was written", x, 2);
            }
        }
    }

    private static void spoiltSpare() {
        Due.sentence("it is reckoned and written (1 write)");
        Field x = Racks.rebuilt();
        x.spoil(3, 0, 64, 2, 0x101);
        Due.is("scrub", x.scrub(), 1);
        Due.is("the place stays", x.place(0, 0), 3);
        x.off();
        Due.is("it has its tag", x.place(0, 0), 3);
        x.open();
        Racks.areFilled("scrubbed", x, x.blocks);
    }

    private static void oneStripeAlone() {
        Due.sentence("SCRUB, a step: the NEXT stripe");
        Field x = new Field(7, 3, 48);
        x.spoil(x.place(0, 1), 0, 0, 1, 1);
        x.spoil(x.place(0, 4), 0, 0, 1, 1);
        Due.is("stripe 0", x.scrub(), 1);
        Due.is("the other one of its row is spoilt still", x.look(Racks.SPOILT), 1);
        Due.is("stripe 1", x.scrub(), 1);
        Due.is("none is spoilt", x.look(Racks.SPOILT), 0);
    }

    /** The xor of what is left is not 0, yet that is no hole. */
    private static void lostCell() {
        Due.sentence("otherwise, if none is lost, and the xor of all is not 0, HOLES is 1 more.");
        for (int disk = 0; disk < 3; disk++) {
            Field x = Racks.six();
            x.fail(disk);
            int writes = x.look(Racks.WRITES);
            for (int s = 0; s < 48; s++) {
                Due.is("scrub", x.scrub(), 0);
            }
            Due.is("holes, disk " + disk + " failed", x.look(Racks.HOLES), 0);
            x.replace(disk);
            x.scrub();
            Due.is("holes, disk " + disk + " blank", x.look(Racks.HOLES), 0);
            Due.is("a lost one is not written", x.look(Racks.WRITES), writes);
            Due.is("and stays lost", x.look(Racks.LOST), 24);
        }
    }

    private static void noHoles() {
        Due.sentence("the xor of all is not 0");
        for (int n = 1; n <= 4; n++) {
            Field x = Racks.six();
            Racks.cutWrite(x, 0, 5, n);
            x.open();
            Due.is("scrub behind a write cut at " + n, x.scrub(), 0);
            Due.is("holes", x.look(Racks.HOLES), 0);
        }
        Field x = Racks.rebuilt();
        x.replace(0);
        Racks.all(x::copyBack);
        for (int s = 0; s < 48; s++) {
            x.scrub();
        }
        Due.is("holes, all copied back", x.look(Racks.HOLES), 0);
    }
}
