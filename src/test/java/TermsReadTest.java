/** Terms: to read a block. */
public final class TermsReadTest {
    public static void main(String[] args) {
        itsPlace();
        spoilt();
        lost();
        throughSpares();
        theirSpoiltBytesDoNotCount();
        Due.end();
    }

    /** The first two rows of a rack with two stripes a row. */
    private static Field nine() {
        Field x = new Field(9, 4, 48);
        Racks.fill(x, 12);
        return x;
    }

    private static void itsPlace() {
        Due.sentence("To READ a block: its place, if it is valid");
        Field x = nine();
        Racks.areFilled("all are there", x, 12);
        // Parity is spoilt: no block is reckoned.
        Due.is("spoil", x.spoil(x.place(0, 3), 0, 0, 8, -1L), true);
        Racks.areFilled("parity is spoilt", x, 12);
        x.fail(x.place(0, 3));
        Racks.areFilled("parity is lost", x, 12);
    }

    private static void spoilt() {
        Due.sentence("otherwise the xor of the other cells of the stripe (so to RECKON it).");
        for (int position = 0; position < 8; position++) {
            for (int at : new int[] {0, 7, 8, 63, 64, 65, 66, 69}) {
                Field x = nine();
                Due.is("spoil", x.spoil(x.place(1, position), 1, at, 1, 16), true);
                Racks.areFilled("position " + position + ", byte " + at + " spoilt", x, 12);
            }
        }
    }

    private static void lost() {
        Due.sentence("otherwise the xor of the other cells of the stripe");
        for (int disk = 0; disk < 9; disk++) {
            Field x = nine();
            x.fail(disk);
            Racks.areFilled("disk " + disk + " failed", x, 12);
            x.replace(disk);
            Racks.areFilled("disk " + disk + " blank", x, 12);
        }
        Field x = new Field(8, 5, 48);
        for (int k = 0; k < 8; k++) {
            x.feed(8, -7L * k);
        }
        x.write(2);
        Racks.write(x, 3, 99);
        x.fail(2);
        for (int k = 0; k < 8; k++) {
            Due.is("word " + k + ", reckoned", x.read(2, k), -7L * k);
        }
    }

    private static void throughSpares() {
        Due.sentence("its place, if it is valid; otherwise the xor of the other cells");
        Field x = Racks.rebuilt();
        Racks.areFilled("in spares", x, x.blocks);
        Due.is("the spare is spoilt", x.spoil(3, 0, 8, 1, 16), true);
        Due.is("so it is reckoned", x.read(0, 0), 1000);
        Due.is("whole", x.read(0, 1), 0);
        Racks.offAndOpen(x);
        Due.is("the spare is not found", x.place(0, 0), -1);
        Due.is("reckoned too", x.read(0, 0), 1000);
        Field y = Racks.rebuilt();
        y.spoil(1, 0, 0, 1, 1);
        Due.is("reckoned with the cell in a spare", y.read(1, 0), 1001);
    }

    private static void theirSpoiltBytesDoNotCount() {
        Due.sentence("its place, if it is valid");
        Field x = Racks.six();
        x.spoil(0, 0, 0, 8, -1L);
        Due.is("the spoilt one", x.read(0, 0), 1000);
        Due.is("the other one is not reckoned with it", x.read(1, 0), 1001);
        x.spoil(0, 0, 0, 8, -1L);
        Due.is("as written again", x.read(0, 0), 1000);
    }
}
