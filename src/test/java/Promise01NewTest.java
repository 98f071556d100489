/** Promise 1: a new object. */
public final class Promise01NewTest {
    public static void main(String[] args) {
        disks();
        width();
        widthNotBelowTheDisks();
        rows();
        allWrong();
        cells();
        isOn();
        Due.end();
    }

    private static void disks() {
        Due.sentence("So many disks (8 if it is not 6 .. 16)");
        for (int disks = -1; disks <= 20; disks++) {
            hasSizes(disks, 3, 48, disks >= 6 && disks <= 16 ? disks : 8, 3, 48);
        }
        for (int far : Racks.FAR) {
            hasSizes(far, 4, 50, 8, 4, 50);
        }
    }

    private static void width() {
        Due.sentence("the width (3 if it is not 3 .. 8");
        for (int width = -1; width <= 20; width++) {
            hasSizes(16, width, 48, 16, width >= 3 && width <= 8 ? width : 3, 48);
        }
        for (int far : Racks.FAR) {
            hasSizes(16, far, 48, 16, 3, 48);
        }
    }

    private static void widthNotBelowTheDisks() {
        Due.sentence("or not below the disks)");
        for (int disks = 6; disks <= 9; disks++) {
            hasSizes(disks, disks - 1, 48, disks, disks - 1, 48);
            hasSizes(disks, disks, 48, disks, 3, 48);
            hasSizes(disks, disks + 1, 48, disks, 3, 48);
        }
        // With a wrong number of disks there are 8, and the width is held against these.
        for (int wrong : new int[] {5, 17}) {
            hasSizes(wrong, 5, 48, 8, 5, 48);
            hasSizes(wrong, 7, 48, 8, 7, 48);
            hasSizes(wrong, 8, 48, 8, 3, 48);
        }
    }

    private static void rows() {
        Due.sentence("the rows (48 if it is not 48 .. 64)");
        for (int rows = 40; rows <= 70; rows++) {
            hasSizes(7, 3, rows, 7, 3, rows >= 48 && rows <= 64 ? rows : 48);
        }
        hasSizes(7, 3, 0, 7, 3, 48);
        hasSizes(7, 3, -48, 7, 3, 48);
        for (int far : Racks.FAR) {
            hasSizes(7, 3, far, 7, 3, 48);
        }
    }

    private static void allWrong() {
        Due.sentence("So many disks (8 if it is not 6 .. 16), the width (3 if it is not 3 .. 8, or not below the disks), "
            + "the rows (48 if it is not 48 .. 64).");
        hasSizes(0, 0, 0, 8, 3, 48);
        for (int far : Racks.FAR) {
            hasSizes(far, far, far, 8, 3, 48);
        }
        hasSizes(16, 8, 64, 16, 8, 64);
        hasSizes(6, 3, 48, 6, 3, 48);
    }

    private static void hasSizes(int disks, int width, int rows, int d, int w, int r) {
        String name = "new(" + disks + ", " + width + ", " + rows + ")";
        StripeField x = new StripeField(disks, width, rows);
        int groups = (d - 1) / w;
        Due.is(name + " disks", x.look(10), d);
        Due.is(name + " live ones", x.look(11), d);
        Due.is(name + " width", x.look(9), w);
        Due.is(name + " stripes", x.look(7), r * groups);
        Due.is(name + " blocks", x.look(5), r * groups * (w - 1));
        Due.is(name + " spares", x.look(4), r * (d - w * groups));
        Due.is(name + " has its last row", x.place(r - 1, 0), (r - 1) % d);
        Due.is(name + " has no row more", Due.thrown(() -> x.place(r, 0)), IllegalArgumentException.class.getName());
        Due.is(name + " has its last disk", x.replace(d - 1), false);
        Due.is(name + " has no disk more", Due.thrown(() -> x.replace(d)), IllegalArgumentException.class.getName());
    }

    private static void cells() {
        Due.sentence("All cells are written: 0s, with their tags");
        for (int[] sizes : new int[][] {{6, 3, 48}, {7, 3, 48}, {16, 3, 64}, {16, 8, 64}}) {
            Field x = new Field(sizes[0], sizes[1], sizes[2]);
            Racks.read("new", x, x.blocks, block -> 0);
            Due.is("none is lost", x.look(Racks.LOST), 0);
            Due.is("none is spoilt", x.look(Racks.SPOILT), 0);
            Due.is("none is blank", x.copyBack(), 0);
            x.off();
            Due.is("all are found", x.look(Racks.LOST), 0);
            Due.is("all are valid", x.look(Racks.SPOILT), 0);
            x.open();
            Due.is("no log or spare has a tag above 0", x.look(Racks.WRITES), 0);
            Due.is("fail", x.fail(x.disks - 1), true);
            Racks.read("parity is 0s too", x, x.blocks, block -> 0);
        }
        Field x = new Field(7, 3, 48);
        for (int k = 0; k < 8; k++) {
            Due.is("word " + k, x.read(0, k), 0);
        }
        for (int row = 0; row < 48; row += 47) {
            for (int position = 0; position < 6; position++) {
                int disk = x.place(row, position);
                Due.is("a forged cell", x.spoil(disk, row, 62, 8, Racks.forgedMask(77 + position)), false);
                Due.is("a spoilt one", x.spoil(disk, row, 69, 1, 128), true);
                Due.is("is right again", x.spoil(disk, row, 69, 1, 128), true);
                Due.is("none is spoilt", x.look(Racks.SPOILT), 0);
            }
        }
    }

    private static void isOn() {
        Due.sentence("it is on.");
        Field x = new Field(11, 4, 60);
        int[] want = {1, 0, 0, 0, 60 * 3, 60 * 2 * 3, 0, 60 * 2, 0, 4, 11, 11, 0};
        for (int what = 0; what <= 12; what++) {
            Due.is("look(" + what + ")", x.look(what), want[what]);
        }
        Due.is("open throws", Due.thrown(x::open), IllegalStateException.class.getName());
        Due.is("off throws", Due.thrown(x::off), "nothing");
    }
}
