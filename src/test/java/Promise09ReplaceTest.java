/** Promise 9: replace. */
public final class Promise09ReplaceTest {
    public static void main(String[] args) {
        replaced();
        whileOff();
        manyTimes();
        live();
        noSuchDisk();
        Due.end();
    }

    private static void replaced() {
        Due.sentence("A failed disk is replaced: true");
        for (int disk = 0; disk < 6; disk++) {
            Field x = Racks.six();
            x.fail(disk);
            int writes = x.look(Racks.WRITES);
            Due.is("replace", x.replace(disk), true);
            Due.is("live ones", x.look(Racks.LIVE), 6);
            Due.is("all are blank: lost", x.look(Racks.LOST), 24);
            Due.is("its spares are free", x.look(Racks.FREE), 48 * 3);
            Due.is("no write", x.look(Racks.WRITES), writes);
            Racks.areFilled("replaced", x, x.blocks);
        }
    }

    private static void whileOff() {
        Due.sentence("A failed disk is replaced: true");
        Field x = Racks.six();
        x.fail(2);
        x.off();
        Due.is("replace while off", x.replace(2), true);
        Due.is("still lost", x.look(Racks.LOST), 24);
        Due.is("live ones", x.look(Racks.LIVE), 6);
        x.open();
        Due.is("opening finds it blank", x.place(0, 2), -1);
        Due.is("to copy back", x.copyBack(), 1);
        Due.is("home", x.place(0, 2), 2);
    }

    private static void manyTimes() {
        Due.sentence("A failed disk is replaced: true");
        Field x = Racks.six();
        for (int round = 0; round < 10; round++) {
            Due.is("fail", x.fail(2), true);
            Due.is("replace", x.replace(2), true);
            x.copyBack();
            Due.is("copied back", x.place(0, 2), 2);
        }
        Racks.areFilled("replaced", x, x.blocks);
    }

    private static void live() {
        Due.sentence("false when it is live.");
        Field x = Racks.six();
        String before = Racks.seen(x);
        for (int disk = 0; disk < 6; disk++) {
            Due.is("live", x.replace(disk), false);
        }
        Due.is("nothing changes", Racks.seen(x), before);
        x.fail(2);
        x.replace(2);
        before = Racks.seen(x);
        Due.is("replaced already", x.replace(2), false);
        Due.is("nothing changes", Racks.seen(x), before);
        x.off();
        Due.is("while off", x.replace(2), false);
    }

    private static void noSuchDisk() {
        Due.sentence("Throws IllegalArgumentException when there is none.");
        for (int disks : new int[] {6, 7, 16}) {
            Field x = new Field(disks, 3, 48);
            x.fail(1);
            Due.argument("-1", x, () -> x.replace(-1));
            Due.argument("one behind the last", x, () -> x.replace(disks));
            for (int far : Racks.FAR) {
                Due.argument("" + far, x, () -> x.replace(far));
            }
            x.off();
            Due.argument("-1 while off", x, () -> x.replace(-1));
            Due.argument("one behind the last, while off", x, () -> x.replace(disks));
        }
    }
}
