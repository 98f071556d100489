/** Promise 9: replace. */
public final class Promise09ReplaceTest {
    public static void main(String[] args) {
        StripeField x = new StripeField(6, 3, 48);
        Racks.fill(x);
        Due.is("live", x.replace(2), false);
        x.fail(2);
        int writes = x.look(1);
        Due.is("replace", x.replace(2), true);
        Due.is("live now", x.replace(2), false);
        Due.is("live ones", x.look(11), 6);
        Due.is("all are blank: lost", x.look(2), 24);
        Due.is("its spares are free", x.look(4), 48 * 3);
        Due.is("no write", x.look(1), writes);
        Due.is("a blank cell is no place", x.spoil(2, 0, 0, 1, 1), false);
        Due.is("nothing to rebuild", x.rebuild(), 0);
        Racks.areFilled("replaced", x);

        x.off();
        Due.is("still blank when off", x.look(2), 24);
        x.fail(2);
        Due.is("replace while off", x.replace(2), true);
        x.open();
        Due.is("opening finds it blank", x.place(0, 2), -1);
        Due.is("to copy back", x.copyBack(), 1);

        for (int disk : new int[] {-1, 6, Integer.MIN_VALUE, Integer.MAX_VALUE}) {
            Due.argument("replace(" + disk + ")", x, () -> x.replace(disk));
        }
        logIsBlank();
        Due.end();
    }

    /** The log of a disk that was replaced says nothing, and takes the next writes. */
    private static void logIsBlank() {
        StripeField x = new StripeField(6, 3, 48);
        Racks.fill(x);
        Racks.cutWrite(x, 0, 5, 3);
        int writes = x.look(1);
        x.fail(2);
        x.replace(2);
        x.open();
        Due.is("opening has no log", x.look(1), writes);
        Due.is("the block", x.read(0, 0), 5);
        Due.is("copy back parity", x.copyBack(), 1);
        Due.is("write", Racks.write(x, 0, 6), true);
        Due.is("four writes", x.look(1), writes + 5);
        x.fail(0);
        Due.is("reckoned", x.read(0, 0), 6);
    }
}
