/** Promise 13: scrub. */
public final class Promise13ScrubTest {
    public static void main(String[] args) {
        inTurn();
        spoilt();
        spoiltSpare();
        powerLost();
        Due.end();
    }

    private static void inTurn() {
        StripeField x = new StripeField(10, 4, 48);
        Racks.fill(x);
        int writes = x.look(1);
        for (int s = 0; s < 96; s++) {
            Due.is("next", x.look(8), s);
            Due.is("scrub", x.scrub(), 0);
        }
        Due.is("behind the last one", x.look(8), 0);
        x.fail(4);
        for (int s = 0; s < 97; s++) {
            Due.is("scrub", x.scrub(), 0);
        }
        Due.is("next", x.look(8), 1);
        Due.is("no write", x.look(1), writes);
        Due.is("holes", x.look(6), 0);
    }

    private static void spoilt() {
        for (int column = 0; column < 3; column++) {
            StripeField x = new StripeField(6, 3, 48);
            Racks.fill(x);
            int writes = x.look(1);
            x.spoil(x.place(1, column), 1, 20, 8, -1L);
            Due.is("stripe 0 is right", x.scrub(), 0);
            Due.is("stripe 1 is not", x.scrub(), 1);
            Due.is("one write", x.look(1), writes + 1);
            Due.is("none is spoilt", x.look(3), 0);
            Due.is("next", x.look(8), 2);
            Due.is("holes", x.look(6), 0);
            Racks.areFilled("scrubbed", x);
            for (int other = 0; other < 3; other++) {
                if (other != column) {
                    Due.is("spoil another", x.spoil(x.place(1, other), 1, 0, 8, -1L), true);
                    Racks.areFilled("reckoned with what was written", x);
                    x.spoil(x.place(1, other), 1, 0, 8, -1L);
                }
            }
        }
    }

    private static void spoiltSpare() {
        StripeField x = Racks.rebuilt();
        x.spoil(3, 0, 64, 2, 0x101);
        Due.is("scrub", x.scrub(), 1);
        Due.is("the place stays", x.place(0, 0), 3);
        x.off();
        x.open();
        Due.is("it has its tag", x.place(0, 0), 3);
        Racks.areFilled("scrubbed", x);
    }

    private static void powerLost() {
        StripeField x = new StripeField(6, 3, 48);
        Racks.fill(x);
        int writes = x.look(1);
        x.spoil(0, 0, 0, 1, 1);
        x.lose(1);
        Due.is("power lost", x.scrub(), -1);
        Due.is("no write", x.look(1), writes);
        Due.is("spoilt", x.look(3), 1);
        Due.state("scrub while off", x, x::scrub);
        x.open();
        Due.is("next", x.look(8), 0);
        x.lose(1);
        x.scrub();
        x.open();
        Due.is("scrub", x.scrub(), 1);
        x.lose(1);
        Due.is("no write, so no power lost", x.scrub(), 0);
        Due.is("on", x.look(0), 1);
    }
}
