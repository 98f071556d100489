/** Promise 12: copyBack. Which position a step takes is in TermsCopyBackTest. */
public final class Promise12CopyBackTest {
    public static void main(String[] args) {
        step();
        nothingToDo();
        powerLost();
        whileOff();
        Due.end();
    }

    private static void step() {
        Due.sentence("A step of copying back: 1");
        Field x = Racks.rebuilt();
        x.replace(0);
        int writes = x.look(Racks.WRITES);
        int free = x.look(Racks.FREE);
        for (int step = 1; step <= 24; step++) {
            Due.is("a step", x.copyBack(), 1);
            Due.is("two writes", x.look(Racks.WRITES), writes + 2 * step);
            Due.is("a spare is free", x.look(Racks.FREE), free + step);
        }
        Due.is("nothing more", x.copyBack(), 0);
        Due.is("all spares are free", x.look(Racks.FREE), 48 * 3);
        Racks.areFilled("copied back", x, x.blocks);
    }

    private static void nothingToDo() {
        Due.sentence("0 when there is nothing to do");
        Field x = Racks.six();
        x.lose(1);
        Due.is("none is blank", x.copyBack(), 0);
        Due.is("no write, so no power lost", x.look(Racks.ON), 1);
        x.fail(0);
        String before = Racks.seen(x);
        Due.is("the disk is failed", x.copyBack(), 0);
        Due.is("nothing changes", Racks.seen(x), before);
        Field y = Racks.rebuilt();
        Due.is("the disk is failed, all are in spares", y.copyBack(), 0);
    }

    private static void powerLost() {
        Due.sentence("-1 when power was lost.");
        Field x = Racks.rebuilt();
        x.replace(0);
        int writes = x.look(Racks.WRITES);
        x.lose(1);
        Due.is("power lost at home", x.copyBack(), -1);
        Due.is("off", x.look(Racks.ON), 0);
        Due.is("no write", x.look(Racks.WRITES), writes);
        x.open();
        x.lose(2);
        Due.is("power lost at the spare", x.copyBack(), -1);
        Due.is("off", x.look(Racks.ON), 0);
        Due.is("one write", x.look(Racks.WRITES), writes + 1);
        x.open();
        Racks.areFilled("opened", x, x.blocks);
        x.lose(3);
        Due.is("one write further", x.copyBack(), 1);
        Due.is("on", x.look(Racks.ON), 1);
        Field lost = Racks.six();
        lost.fail(0);
        lost.replace(0);
        lost.lose(1);
        Due.is("a lost one has one write", lost.copyBack(), -1);
        lost.open();
        lost.lose(2);
        Due.is("and no more", lost.copyBack(), 1);
    }

    private static void whileOff() {
        Due.sentence("Throws IllegalStateException when it is off.");
        Field x = Racks.six();
        x.off();
        Due.state("nothing to do", x, x::copyBack);
        x.fail(0);
        x.replace(0);
        Due.state("something to do", x, x::copyBack);
        x.open();
        x.lose(1);
        x.copyBack();
        Due.state("power lost", x, x::copyBack);
    }
}
