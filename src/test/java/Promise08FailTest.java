/** Promise 8: fail. */
public final class Promise08FailTest {
    public static void main(String[] args) {
        one();
        refused();
        spoiltCounts();
        whileOff();
        countsAsLost();
        foundInASpare();
        wrongInputs();
        Due.end();
    }

    private static void one() {
        StripeField x = new StripeField(6, 3, 48);
        Racks.fill(x);
        int writes = x.look(1);
        Due.is("fail", x.fail(5), true);
        Due.is("live", x.look(11), 5);
        Due.is("lost", x.look(2), 24);
        Due.is("free spares", x.look(4), 48 * 3 - 24);
        Due.is("no write", x.look(1), writes);
        Due.is("it is failed", x.fail(5), false);
        Racks.areFilled("failed", x);
    }

    private static void refused() {
        StripeField x = new StripeField(6, 3, 48);
        Due.is("fail", x.fail(2), true);
        // Disks 2 and 5 share no stripe: a stripe lies on three disks side by side.
        for (int disk = 0; disk < 5; disk++) {
            Due.is("a second one, " + disk, x.fail(disk), false);
        }
        Due.is("live", x.look(11), 5);
        x.replace(2);
        Due.is("lost still", x.look(2), 24);
        Due.is("refused still", x.fail(3), false);
        Due.is("the blank one may fail again", x.fail(2), true);
        Racks.all(x::rebuild);
        Due.is("rebuilt", x.look(2), 0);
        Due.is("a second one", x.fail(3), true);
        Due.is("live", x.look(11), 4);
    }

    private static void spoiltCounts() {
        StripeField x = new StripeField(6, 3, 48);
        x.spoil(0, 0, 0, 1, 1);
        Due.is("the other data", x.fail(1), false);
        Due.is("parity", x.fail(2), false);
        Due.is("its own disk", x.fail(0), true);
        StripeField y = new StripeField(6, 3, 48);
        y.spoil(0, 0, 0, 1, 1);
        Due.is("a disk that has a spare there", y.fail(4), true);
        y.off();
        Due.is("while off", y.fail(1), false);
    }

    private static void whileOff() {
        StripeField x = Racks.rebuilt();
        x.off();
        Due.is("fail while off", x.fail(3), true);
        Due.is("a spare was on it", x.place(0, 0), -1);
        Due.is("refused", x.fail(1), false);
        x.open();
        Racks.areFilled("opened", x);
    }

    /** While it is off, all count as lost whose places lie on the disk, though a spare would be found then. */
    private static void countsAsLost() {
        StripeField x = Racks.rebuilt();
        x.spoil(1, 0, 0, 1, 1);
        x.replace(0);
        x.lose(2);
        x.copyBack();
        Due.is("place", x.place(0, 0), 0);
        Due.is("it counts as lost, beside the spoilt one", x.fail(0), false);
        Due.is("it is where it was", x.place(0, 0), 0);
    }

    /** Behind that it is in its spare, so that another disk of the stripe may fail. */
    private static void foundInASpare() {
        StripeField x = Racks.rebuilt();
        x.replace(0);
        x.lose(2);
        x.copyBack();
        Due.is("fail while off", x.fail(0), true);
        Due.is("another of its stripe", x.fail(1), true);
        Due.is("the place", x.place(0, 0), 3);
        x.open();
        Racks.areFilled("opened", x);
    }

    private static void wrongInputs() {
        StripeField x = new StripeField(7, 3, 48);
        for (int disk : new int[] {-1, 7, Integer.MIN_VALUE, Integer.MAX_VALUE}) {
            Due.argument("fail(" + disk + ")", x, () -> x.fail(disk));
        }
        x.off();
        Due.argument("fail(7) while off", x, () -> x.fail(7));
    }
}
