/** Promise 12: copyBack. */
public final class Promise12CopyBackTest {
    public static void main(String[] args) {
        fromSpares();
        lost();
        spoiltSpare();
        powerLost();
        Due.end();
    }

    private static void fromSpares() {
        StripeField x = Racks.rebuilt();
        Due.is("nothing to do while the disk is failed", x.copyBack(), 0);
        x.replace(0);
        int writes = x.look(1);
        int free = x.look(4);
        Due.is("a step", x.copyBack(), 1);
        Due.is("two writes", x.look(1), writes + 2);
        Due.is("home", x.place(0, 0), 0);
        Due.is("the spare is free", x.look(4), free + 1);
        Due.is("the next is not yet home", x.place(1, 1), 4);
        for (int i = 1; i < 24; i++) {
            Due.is("a step", x.copyBack(), 1);
        }
        Due.is("nothing to do", x.copyBack(), 0);
        Due.is("writes", x.look(1), writes + 48);
        Due.is("all spares are free", x.look(4), 48 * 3);
        Racks.areFilled("copied back", x);
        x.off();
        x.open();
        Due.is("no spare has a tag", x.look(1), writes + 48);
    }

    private static void lost() {
        StripeField x = new StripeField(6, 3, 48);
        Racks.fill(x);
        x.fail(2);
        x.replace(2);
        int writes = x.look(1);
        Due.is("a step", x.copyBack(), 1);
        Due.is("one write", x.look(1), writes + 1);
        Due.is("home", x.place(0, 2), 2);
        Due.is("lost", x.look(2), 23);
        Due.is("the others", Racks.all(x::copyBack), 23);
        Due.is("none is lost", x.look(2), 0);
        Due.is("one write each", x.look(1), writes + 24);
        for (int s = 0; s < 48; s++) {
            x.scrub();
        }
        Due.is("no holes", x.look(6), 0);
        x.fail(1);
        Racks.areFilled("reckoned with it", x);
    }

    private static void spoiltSpare() {
        StripeField x = Racks.rebuilt();
        x.replace(0);
        x.spoil(3, 0, 0, 2, 0x1234);
        Due.is("a step", x.copyBack(), 1);
        Due.is("none is spoilt", x.look(3), 0);
        Racks.areFilled("copied back", x);
    }

    private static void powerLost() {
        StripeField x = Racks.rebuilt();
        x.replace(0);
        int writes = x.look(1);
        x.lose(1);
        Due.is("power lost at home", x.copyBack(), -1);
        Due.is("no write", x.look(1), writes);
        Due.is("the spare is found", x.place(0, 0), 3);
        Due.state("copyBack while off", x, x::copyBack);
        x.open();
        x.lose(2);
        Due.is("power lost at the spare", x.copyBack(), -1);
        Due.is("one write", x.look(1), writes + 1);
        Due.is("home is found", x.place(0, 0), 0);
        x.open();
        Due.is("opening clears the spare", x.look(1), writes + 2);
        Racks.areFilled("opened", x);
    }
}
