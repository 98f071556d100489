/** Promise 11: rebuild. */
public final class Promise11RebuildTest {
    public static void main(String[] args) {
        step();
        all();
        whileRowsAreFull();
        replacedDisk();
        powerLost();
        Due.end();
    }

    private static void step() {
        StripeField x = new StripeField(6, 3, 48);
        Racks.fill(x);
        Due.is("nothing to do", x.rebuild(), 0);
        x.fail(5);
        // In row 0 disk 5 has a spare; in row 1, whose step is 5, position 2.
        int writes = x.look(1);
        Due.is("a step", x.rebuild(), 1);
        Due.is("one write", x.look(1), writes + 1);
        Due.is("lost", x.look(2), 23);
        Due.is("free spares", x.look(4), 48 * 3 - 24 - 1);
        Due.is("the first spare of row 1: position 3", x.place(1, 2), 4);
        Due.is("no more than that", x.place(2, 2), 4);
        Racks.areFilled("a step", x);
    }

    private static void all() {
        StripeField x = Racks.rebuilt();
        Due.is("none is lost", x.look(2), 0);
        Due.is("nothing to do", x.rebuild(), 0);
        Racks.areFilled("rebuilt", x);
        Due.is("the next disk fails", x.fail(1), true);
        Racks.areFilled("second disk failed", x);
        int lost = x.look(2);
        Due.is("a step for each", Racks.all(x::rebuild), lost);
        Due.is("none is lost", x.look(2), 0);
        Due.is("some were", lost > 0, true);
        Racks.areFilled("second disk rebuilt", x);
        Due.is("the third disk fails", x.fail(2), true);
        Racks.areFilled("third disk failed", x);
    }

    /** With 7 disks and width 3 a row has one spare alone. */
    private static void whileRowsAreFull() {
        StripeField x = new StripeField(7, 3, 48);
        Racks.fill(x);
        x.fail(0);
        Racks.all(x::rebuild);
        Due.is("none is lost", x.look(2), 0);
        Due.is("fail", x.fail(1), true);
        int lost = x.look(2);
        Due.is("no free spare in any such row", x.rebuild(), 0);
        Due.is("lost", x.look(2), lost);
        Racks.areFilled("full", x);
    }

    private static void replacedDisk() {
        StripeField x = new StripeField(6, 3, 48);
        Racks.fill(x);
        x.fail(0);
        x.rebuild();
        x.replace(0);
        Due.is("home's disk is live", x.rebuild(), 0);
        Due.is("lost", x.look(2), 23);
    }

    private static void powerLost() {
        StripeField x = new StripeField(6, 3, 48);
        Racks.fill(x);
        x.fail(0);
        int writes = x.look(1);
        x.lose(1);
        Due.is("power lost", x.rebuild(), -1);
        Due.is("no write", x.look(1), writes);
        Due.is("lost", x.look(2), 24);
        Due.state("rebuild while off", x, x::rebuild);
        x.open();
        Due.is("lost", x.look(2), 24);
        x.lose(2);
        Due.is("a step", x.rebuild(), 1);
        Due.is("power lost", x.rebuild(), -1);
        x.open();
        Due.is("lost", x.look(2), 23);
        Racks.areFilled("opened", x);
    }
}
