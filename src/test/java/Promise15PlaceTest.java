/** Promise 15: place. Where homes lie is in TermsLayoutTest. */
public final class Promise15PlaceTest {
    public static void main(String[] args) {
        diskOfThePlace();
        lost();
        whileOff();
        noSuchRow();
        noPositionOfAStripe();
        Due.end();
    }

    private static void diskOfThePlace() {
        Due.sentence("The disk of a position's place");
        Field x = Racks.six();
        Due.is("home", x.place(0, 0), 0);
        x.fail(0);
        x.rebuild();
        Due.is("in a spare", x.place(0, 0), 3);
        Due.is("another of that row", x.place(0, 1), 1);
        x.replace(0);
        Due.is("in a spare, with its home's disk live", x.place(0, 0), 3);
        x.copyBack();
        Due.is("home", x.place(0, 0), 0);
        x.spoil(0, 0, 0, 1, 1);
        Due.is("spoilt", x.place(0, 0), 0);
    }

    private static void lost() {
        Due.sentence("-1 when it is lost");
        Field x = Racks.six();
        x.fail(0);
        Due.is("its disk failed", x.place(0, 0), -1);
        Due.is("in the last row too", x.place(46, 2), -1);
        Due.is("not another", x.place(47, 2), 3);
        x.replace(0);
        Due.is("blank", x.place(0, 0), -1);
        x.copyBack();
        Due.is("copied back", x.place(0, 0), 0);
        Due.is("the next one is not", x.place(1, 1), -1);
    }

    private static void whileOff() {
        Due.sentence("(while it is off, of that which opening would find)");
        Field x = Racks.rebuilt();
        x.spoil(3, 0, 0, 1, 1);
        x.spoil(1, 3, 0, 1, 1);
        Due.is("on: a spoilt spare", x.place(0, 0), 3);
        x.off();
        Due.is("off: it is not found", x.place(0, 0), -1);
        Due.is("a spoilt home is", x.place(3, 2), 1);
        Due.is("a spare that is right is", x.place(1, 1), 4);
        Due.is("fail", x.fail(4), true);
        Due.is("its disk failed", x.place(1, 1), -1);
        Field stale = Racks.withAStaleSpare();
        Due.is("home before a spare", stale.place(0, 0), 0);
        stale.fail(0);
        Due.is("the spare", stale.place(0, 0), 3);
    }

    private static void noSuchRow() {
        Due.sentence("Throws IllegalArgumentException when there is no such row");
        for (int rows : new int[] {48, 50, 64}) {
            Field x = new Field(7, 3, rows);
            Due.argument("-1", x, () -> x.place(-1, 0));
            Due.argument("ROWS: the logs", x, () -> x.place(rows, 0));
            for (int far : Racks.FAR) {
                Due.argument("" + far, x, () -> x.place(far, 0));
            }
            Due.is("the first one", x.place(0, 0), 0);
            Due.is("the last one", x.place(rows - 1, 0), (rows - 1) % 7);
            x.off();
            Due.argument("-1 while off", x, () -> x.place(-1, 0));
            Due.argument("ROWS while off", x, () -> x.place(rows, 0));
        }
    }

    private static void noPositionOfAStripe() {
        Due.sentence("or the position is none of a stripe.");
        for (int[] sizes : new int[][] {{6, 3}, {6, 5}, {7, 3}, {9, 8}, {16, 3}, {16, 8}}) {
            Field x = new Field(sizes[0], sizes[1], 48);
            Due.argument("-1", x, () -> x.place(0, -1));
            for (int spare = x.positions; spare <= x.disks; spare++) {
                int position = spare;
                Due.argument("the spare, or none, " + spare, x, () -> x.place(0, position));
            }
            for (int far : Racks.FAR) {
                Due.argument("" + far, x, () -> x.place(0, far));
            }
            Due.is("the first one", x.place(0, 0), 0);
            Due.is("the last one", x.place(0, x.positions - 1), x.positions - 1);
            x.off();
            Due.argument("-1 while off", x, () -> x.place(0, -1));
            Due.argument("a spare while off", x, () -> x.place(0, x.positions));
        }
    }
}
