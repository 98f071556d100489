/** Promise 13: scrub. What a step does is in TermsScrubTest. */
public final class Promise13ScrubTest {
    public static void main(String[] args) {
        written();
        notWritten();
        powerLost();
        whileOff();
        Due.end();
    }

    private static void written() {
        Due.sentence("A step of scrubbing: 1 when a cell was written anew");
        for (int row = 0; row < 48; row += 47) {
            Field x = Racks.six();
            int writes = x.look(Racks.WRITES);
            x.spoil(x.place(row, 1), row, 69, 1, 128);
            for (int s = 0; s < 48; s++) {
                Due.is("stripe " + s, x.scrub(), s == row ? 1 : 0);
            }
            Due.is("one write", x.look(Racks.WRITES), writes + 1);
            Due.is("none is spoilt", x.look(Racks.SPOILT), 0);
            Racks.areFilled("scrubbed", x, x.blocks);
        }
    }

    private static void notWritten() {
        Due.sentence("0 when not");
        Field x = Racks.six();
        int writes = x.look(Racks.WRITES);
        x.lose(1);
        Due.is("all are right", x.scrub(), 0);
        x.fail(0);
        Due.is("one is lost", x.scrub(), 0);
        Due.is("no write", x.look(Racks.WRITES), writes);
        Due.is("so no power lost", x.look(Racks.ON), 1);
        Due.is("a lost one stays lost", x.place(1, 1), -1);
    }

    private static void powerLost() {
        Due.sentence("-1 when power was lost.");
        Field x = Racks.six();
        int writes = x.look(Racks.WRITES);
        x.spoil(0, 0, 0, 1, 1);
        x.lose(1);
        Due.is("power lost", x.scrub(), -1);
        Due.is("off", x.look(Racks.ON), 0);
        Due.is("no write", x.look(Racks.WRITES), writes);
        Due.is("spoilt", x.look(Racks.SPOILT), 1);
        x.open();
        x.lose(2);
        Due.is("one write further", x.scrub(), 1);
        Due.is("on", x.look(Racks.ON), 1);
        Due.is("none is spoilt", x.look(Racks.SPOILT), 0);
    }

    private static void whileOff() {
        Due.sentence("Throws IllegalStateException when it is off.");
        Field x = Racks.six();
        x.scrub();
        x.off();
        Due.state("nothing to do", x, x::scrub);
        x.open();
        x.spoil(0, 0, 0, 1, 1);
        x.off();
        Due.state("something to do", x, x::scrub);
        x.open();
        x.lose(1);
        x.scrub();
        Due.state("power lost", x, x::scrub);
    }
}
