/** Promise 11: rebuild. Which position and which spare a step takes is in TermsRebuildTest. */
public final class Promise11RebuildTest {
    public static void main(String[] args) {
        step();
        nothingToDo();
        powerLost();
        whileOff();
        Due.end();
    }

    private static void step() {
        Due.sentence("A step of rebuilding: 1");
        Field x = Racks.six();
        x.fail(5);
        int writes = x.look(Racks.WRITES);
        for (int step = 1; step <= 24; step++) {
            Due.is("a step", x.rebuild(), 1);
            Due.is("one write each", x.look(Racks.WRITES), writes + step);
            Due.is("lost", x.look(Racks.LOST), 24 - step);
            Due.is("free spares", x.look(Racks.FREE), 48 * 3 - 24 - step);
        }
        Due.is("nothing more", x.rebuild(), 0);
        Racks.areFilled("rebuilt", x, x.blocks);
    }

    private static void nothingToDo() {
        Due.sentence("0 when there is nothing to do");
        Field x = Racks.six();
        Due.is("none is lost", x.rebuild(), 0);
        x.lose(1);
        Due.is("no write, so no power lost", x.rebuild(), 0);
        Due.is("on", x.look(Racks.ON), 1);
        Field y = Racks.rebuilt();
        String before = Racks.seen(y);
        Due.is("all are rebuilt", y.rebuild(), 0);
        Due.is("nothing changes", Racks.seen(y), before);
        Field z = Racks.six();
        z.fail(0);
        z.replace(0);
        Due.is("homes are live", z.rebuild(), 0);
    }

    private static void powerLost() {
        Due.sentence("-1 when power was lost.");
        Field x = Racks.six();
        x.fail(0);
        int writes = x.look(Racks.WRITES);
        x.lose(1);
        Due.is("power lost", x.rebuild(), -1);
        Due.is("off", x.look(Racks.ON), 0);
        Due.is("no write", x.look(Racks.WRITES), writes);
        Due.is("lost", x.look(Racks.LOST), 24);
        x.open();
        Due.is("lost", x.look(Racks.LOST), 24);
        x.lose(2);
        Due.is("a step", x.rebuild(), 1);
        Due.is("power lost at the next", x.rebuild(), -1);
        x.open();
        Due.is("lost", x.look(Racks.LOST), 23);
        Racks.areFilled("opened", x, x.blocks);
    }

    private static void whileOff() {
        Due.sentence("Throws IllegalStateException when it is off.");
        Field x = Racks.six();
        x.off();
        Due.state("nothing to do", x, x::rebuild);
        x.fail(0);
        Due.state("something to do", x, x::rebuild);
        x.open();
        x.lose(1);
        x.rebuild();
        Due.state("power lost", x, x::rebuild);
    }
}
