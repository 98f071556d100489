import java.util.function.Consumer;
import java.util.function.Supplier;

/** Terms: power. */
public final class TermsPowerTest {
    public static void main(String[] args) {
        atEachWrite();
        placesStay();
        atEachWriteOfOpening();
        Due.end();
    }

    /** For each kind of call that writes: how many writes it has, and what it is. */
    private static void atEachWrite() {
        Due.sentence("POWER may be lost at a write: that write and all behind it are not done; the field is OFF.");
        isCut("write", 4, Racks::six, x -> x.write(0));
        isCut("write, the block is lost", 1, () -> failed(0), x -> x.write(0));
        isCut("write, parity is lost", 1, () -> failed(2), x -> x.write(0));
        isCut("write, the other is lost", 4, () -> failed(1), x -> x.write(0));
        isCut("rebuild", 1, () -> failed(0), Field::rebuild);
        isCut("copyBack of a lost one", 1, () -> replaced(failed(0)), Field::copyBack);
        isCut("copyBack from a spare", 2, () -> replaced(Racks.rebuilt()), Field::copyBack);
        isCut("scrub", 1, TermsPowerTest::spoilt, Field::scrub);
        isCut("scrub, all is right", 0, Racks::six, Field::scrub);
        isCut("rebuild, nothing is lost", 0, Racks::six, Field::rebuild);
        isCut("copyBack, nothing is blank", 0, Racks::six, Field::copyBack);
    }

    private static void isCut(String name, int writes, Supplier<Field> made, Consumer<Field> call) {
        for (int n = 1; n <= writes + 1; n++) {
            Field x = made.get();
            int before = x.look(Racks.WRITES);
            x.lose(n);
            call.accept(x);
            Due.is(name + ", power lost at " + n + ": on", x.look(Racks.ON), n > writes ? 1 : 0);
            Due.is(name + ", power lost at " + n + ": writes", x.look(Racks.WRITES), before + n - 1);
        }
    }

    private static Field failed(int disk) {
        Field x = Racks.six();
        x.fail(disk);
        return x;
    }

    private static Field replaced(Field x) {
        x.replace(0);
        return x;
    }

    private static Field spoilt() {
        Field x = Racks.six();
        x.spoil(0, 0, 0, 1, 1);
        return x;
    }

    private static void placesStay() {
        Due.sentence("that write and all behind it are not done");
        Field rebuild = failed(0);
        rebuild.lose(1);
        rebuild.rebuild();
        Due.is("no spare was written", rebuild.place(0, 0), -1);
        Field copy = replaced(Racks.rebuilt());
        copy.lose(1);
        copy.copyBack();
        Due.is("home was not written", copy.place(0, 0), 3);
        copy = replaced(Racks.rebuilt());
        copy.lose(2);
        copy.copyBack();
        Due.is("home was written", copy.place(0, 0), 0);
        Due.is("the spare was not: the opening does it", copy.open(), true);
        Due.is("writes", copy.look(Racks.WRITES), 4 * 96 + 24 + 2);
        Field scrub = spoilt();
        scrub.lose(1);
        scrub.scrub();
        Due.is("the cell was not written", scrub.look(Racks.SPOILT), 1);
        for (int n = 1; n <= 4; n++) {
            Field x = Racks.six();
            Racks.cutWrite(x, 0, 5, n);
            x.open();
            Due.is("the block, power lost at " + n, x.read(0, 0), n <= 2 ? 1000 : 5);
        }
    }

    private static void atEachWriteOfOpening() {
        Due.sentence("that write and all behind it are not done; the field is OFF.");
        isCut("opening with a log", 2, () -> cut(Racks.six(), 3), Field::open);
        isCut("opening with the log of a lost block", 1, () -> cutAndFailed(0), Field::open);
        isCut("opening with a spare", 1, Racks::withAStaleSpare, Field::open);
        for (int n = 2; n <= 4; n++) {
            int at = n;
            isCut("opening behind a write cut at " + n, 2, () -> cut(Racks.six(), at), Field::open);
        }
        isCut("opening behind a write cut at 1", 0, () -> cut(Racks.six(), 1), Field::open);
    }

    private static Field cut(Field x, int n) {
        Racks.cutWrite(x, 0, 5, n);
        return x;
    }

    private static Field cutAndFailed(int disk) {
        Field x = cut(Racks.six(), 3);
        x.fail(disk);
        return x;
    }
}
