/** Promise 8: fail. What is refused is in TermsRefusedTest too. */
public final class Promise08FailTest {
    public static void main(String[] args) {
        fails();
        firstAndLast();
        whileOff();
        failedAlready();
        refused();
        noSuchDisk();
        Due.end();
    }

    private static void fails() {
        Due.sentence("A disk fails: true");
        Field x = Racks.six();
        int writes = x.look(Racks.WRITES);
        Due.is("fail", x.fail(5), true);
        Due.is("live", x.look(Racks.LIVE), 5);
        Due.is("lost", x.look(Racks.LOST), 24);
        Due.is("free spares", x.look(Racks.FREE), 48 * 3 - 24);
        Due.is("no write", x.look(Racks.WRITES), writes);
        Racks.areFilled("failed", x, x.blocks);
    }

    private static void firstAndLast() {
        Due.sentence("A disk fails: true");
        for (int disks = 6; disks <= 16; disks++) {
            for (int disk = 0; disk < disks; disk++) {
                Field x = new Field(disks, 3, 48);
                Due.is("fail", x.fail(disk), true);
                Due.is("live", x.look(Racks.LIVE), disks - 1);
                Due.is("none lies on it", x.place(disk, 0), -1);
                Due.is("the others are there", x.place((disk + 1) % disks, 0), (disk + 1) % disks);
            }
        }
    }

    private static void whileOff() {
        Due.sentence("A disk fails: true");
        Field x = Racks.rebuilt();
        x.off();
        Due.is("fail while off", x.fail(3), true);
        Due.is("live", x.look(Racks.LIVE), 4);
        Due.is("it is off still", x.look(Racks.ON), 0);
        Due.is("a spare was on it", x.place(0, 0), -1);
        x.open();
        Racks.areFilled("opened", x, x.blocks);
    }

    private static void failedAlready() {
        Due.sentence("false when it is failed");
        Field x = Racks.six();
        x.fail(5);
        String before = Racks.seen(x);
        Due.is("failed", x.fail(5), false);
        Due.is("nothing changes", Racks.seen(x), before);
        x.off();
        Due.is("failed, while off", x.fail(5), false);
        x.open();
        Racks.all(x::rebuild);
        Due.is("rebuilt, it is failed still", x.fail(5), false);
        x.replace(5);
        Due.is("replaced, it may fail again", x.fail(5), true);
    }

    private static void refused() {
        Due.sentence("or that is refused.");
        for (int disk = 1; disk < 6; disk++) {
            Field x = Racks.six();
            x.fail(0);
            String before = Racks.seen(x);
            // Disks 0 and 3 have no stripe together.
            Due.is("a second one, " + disk, x.fail(disk), disk == 3);
            Due.is("nothing changes", Racks.seen(x).equals(before), disk != 3);
        }
        Field x = Racks.six();
        x.fail(0);
        x.off();
        Due.is("while off", x.fail(1), false);
        Due.is("while off", x.fail(3), true);
    }

    private static void noSuchDisk() {
        Due.sentence("Throws IllegalArgumentException when there is none.");
        for (int disks : new int[] {6, 7, 16}) {
            Field x = new Field(disks, 3, 48);
            x.fail(1);
            Due.argument("-1", x, () -> x.fail(-1));
            Due.argument("one behind the last", x, () -> x.fail(disks));
            for (int far : Racks.FAR) {
                Due.argument("" + far, x, () -> x.fail(far));
            }
            x.off();
            Due.argument("-1 while off", x, () -> x.fail(-1));
            Due.argument("one behind the last, while off", x, () -> x.fail(disks));
        }
    }
}
