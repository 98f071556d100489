/** Promise 6: off. */
public final class Promise06OffTest {
    public static void main(String[] args) {
        atOnce();
        whatStays();
        whenItIs();
        Due.end();
    }

    private static void atOnce() {
        Due.sentence("It is off at once.");
        Field fresh = new Field(6, 3, 48);
        fresh.off();
        Due.is("a new one", fresh.look(Racks.ON), 0);
        Field x = Racks.rebuilt();
        int writes = x.look(Racks.WRITES);
        x.off();
        Due.is("off", x.look(Racks.ON), 0);
        Due.is("no write", x.look(Racks.WRITES), writes);
        Due.state("write", x, () -> x.write(0));
        Due.state("read", x, () -> x.read(0, 0));
        Due.state("rebuild", x, x::rebuild);
        Due.state("copyBack", x, x::copyBack);
        Due.state("scrub", x, x::scrub);
        Due.is("spoil", x.spoil(1, 0, 0, 1, 1), false);
    }

    private static void whatStays() {
        Due.sentence("It is off at once.");
        Field x = Racks.rebuilt();
        x.feed(3, 3);
        x.scrub();
        x.off();
        Due.is("the tape", x.look(Racks.TAPE), 3);
        Due.is("the places", x.place(0, 0), 3);
        Due.is("live disks", x.look(Racks.LIVE), 5);
        x.open();
        Due.is("on", x.look(Racks.ON), 1);
        Racks.areFilled("opened", x, x.blocks);
    }

    private static void whenItIs() {
        Due.sentence("Throws IllegalStateException when it is.");
        Field x = new Field(6, 3, 48);
        x.off();
        Due.state("off twice", x, x::off);
        x.lose(1);
        Due.state("what was told while off stands", x, x::off);
        Field lost = new Field(6, 3, 48);
        Racks.cutWrite(lost, 0, 1, 2);
        Due.state("power lost", lost, lost::off);
        lost.lose(1);
        lost.open();
        Due.state("power lost in the opening", lost, lost::off);
        lost.open();
        Due.is("opened", Due.thrown(lost::off), "nothing");
    }
}
