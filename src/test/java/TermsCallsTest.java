/** Terms: calls, their number, what they throw, and that an object's memory is its own. */
public final class TermsCallsTest {
    public static void main(String[] args) {
        fiveHundredTwelve();
        mostWrites();
        ownMemory();
        firstOneTold();
        changesNothing();
        Due.end();
    }

    private static void fiveHundredTwelve() {
        Due.sentence("An object is used for at most 512 calls after it has been made");
        Field x = new Field(16, 8, 64);
        for (int i = 0; i < 170; i++) {
            Due.is("feed", x.feed(8, i), 8);
            Due.is("write", x.write(i), true);
            Due.is("read", x.read(i, 0), i);
        }
        Due.is("call 511", x.look(Racks.WRITES), 4 * 170);
        Due.is("call 512", x.read(169, 0), 169);
        Due.is("that was the last", x.callsLeft(), 0);
    }

    private static void mostWrites() {
        Due.sentence("An object is used for at most 512 calls after it has been made");
        Field x = new Field(6, 3, 48);
        for (int i = 0; i < 511; i++) {
            Due.is("write", x.write(i % 96), true);
        }
        Due.is("all writes", x.look(Racks.WRITES), 4 * 511);
    }

    private static void ownMemory() {
        Due.sentence("All memory is the class's own.");
        Field x = Racks.six();
        Field y = new Field(6, 3, 48);
        String before = Racks.seen(y);
        x.fail(0);
        x.feed(5, 5);
        x.scrub();
        x.spoil(3, 3, 0, 1, 1);
        x.off();
        Due.is("another one has nothing of it", Racks.seen(y), before);
        Due.is("it is on", y.look(Racks.ON), 1);
        Due.is("its tape is empty", y.look(Racks.TAPE), 0);
        Due.is("its disks are live", y.look(Racks.LIVE), 6);
        Due.is("its blocks are 0s", y.read(0, 0), 0);
    }

    /** Calls with two faults of different kinds: the wrong argument is told first in each promise. */
    private static void firstOneTold() {
        Due.sentence("Of several exceptions the first one told is thrown");
        Field full = new Field(6, 3, 48);
        for (int i = 0; i < 8; i++) {
            full.feed(8, i);
        }
        Due.argument("feed 0 to a full tape", full, () -> full.feed(0, 1));
        Due.argument("feed 9 to a full tape", full, () -> full.feed(9, 1));
        Due.state("feed 1 to a full tape", full, () -> full.feed(1, 1));
        Field off = new Field(6, 3, 48);
        off.off();
        Due.argument("write block -1 while off", off, () -> off.write(-1));
        Due.argument("write block 96 while off", off, () -> off.write(96));
        Due.state("write block 95 while off", off, () -> off.write(95));
        Due.argument("read block 96 while off", off, () -> off.read(96, 0));
        Due.argument("read word -1 while off", off, () -> off.read(0, -1));
        Due.argument("read word 8 while off", off, () -> off.read(0, 8));
        Due.state("read word 7 while off", off, () -> off.read(0, 7));
    }

    /** In a state where all has something to change: tape, what was told, NEXT, lost, spoilt and spares. */
    private static void changesNothing() {
        Due.sentence("a call that throws changes nothing.");
        Field x = Racks.rebuilt();
        x.feed(5, 0x0504030201L);
        x.scrub();
        x.spoil(3, 2, 0, 1, 1);
        x.lose(6);
        throwsEverywhere(x);
        Due.state("open", x, x::open);
        x.off();
        x.lose(3);
        throwsEverywhere(x);
        Due.state("write", x, () -> x.write(0));
        Due.state("read", x, () -> x.read(0, 0));
        Due.state("off", x, x::off);
        Due.state("rebuild", x, x::rebuild);
        Due.state("copyBack", x, x::copyBack);
        Due.state("scrub", x, x::scrub);
    }

    private static void throwsEverywhere(Field x) {
        Due.argument("feed", x, () -> x.feed(9, -1L));
        Due.argument("write", x, () -> x.write(96));
        Due.argument("read", x, () -> x.read(96, 0));
        Due.argument("read", x, () -> x.read(0, 8));
        Due.argument("lose", x, () -> x.lose(-1));
        Due.argument("fail", x, () -> x.fail(6));
        Due.argument("replace", x, () -> x.replace(-1));
        Due.argument("spoil", x, () -> x.spoil(1, 0, 70, 1, 1));
        Due.argument("look", x, () -> x.look(13));
        Due.argument("place", x, () -> x.place(48, 0));
        Due.argument("place", x, () -> x.place(0, 3));
    }
}
