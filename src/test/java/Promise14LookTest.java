/** Promise 14: look. */
public final class Promise14LookTest {
    public static void main(String[] args) {
        StripeField x = new StripeField(14, 4, 53);
        areDue("new", x, 1, 0, 0, 0, 53 * 2, 53 * 3 * 3, 0, 53 * 3, 0, 4, 14, 14, 0);
        x.feed(5, 5);
        areDue("fed", x, 1, 0, 0, 0, 53 * 2, 53 * 3 * 3, 0, 53 * 3, 0, 4, 14, 14, 5);
        x.write(9);
        x.scrub();
        areDue("written", x, 1, 4, 0, 0, 53 * 2, 53 * 3 * 3, 0, 53 * 3, 1, 4, 14, 14, 0);
        x.spoil(x.place(0, 0), 0, 0, 1, 1);
        x.spoil(x.place(0, 4), 0, 0, 1, 1);
        areDue("spoilt", x, 1, 4, 0, 2, 53 * 2, 53 * 3 * 3, 0, 53 * 3, 1, 4, 14, 14, 0);
        x.off();
        areDue("off", x, 0, 4, 0, 2, 53 * 2, 53 * 3 * 3, 0, 53 * 3, 1, 4, 14, 14, 0);
        wrongInputs(x);
        x.open();
        areDue("opened", x, 1, 4, 0, 2, 53 * 2, 53 * 3 * 3, 0, 53 * 3, 0, 4, 14, 14, 0);
        wrongInputs(x);
        freeSparesOfLiveDisks();
        Due.end();
    }

    private static void areDue(String when, StripeField x, int... want) {
        for (int what = 0; what < want.length; what++) {
            Due.is(when + ": look(" + what + ")", x.look(what), want[what]);
        }
    }

    private static void wrongInputs(StripeField x) {
        for (int what : new int[] {-1, 13, Integer.MIN_VALUE, Integer.MAX_VALUE}) {
            Due.argument("look(" + what + ")", x, () -> x.look(what));
        }
    }

    private static void freeSparesOfLiveDisks() {
        StripeField x = Racks.rebuilt();
        int[] seen = new int[2];
        for (int round = 0; round < 2; round++) {
            Due.is("lost", x.look(2), 0);
            Due.is("spoilt", x.look(3), 0);
            Due.is("free", x.look(4), 48 * 3 - 24 - 24);
            Due.is("live", x.look(11), 5);
            seen[round] = x.look(1);
            if (round == 0) {
                x.off();
            }
        }
        Due.is("looking writes nothing", seen[0], seen[1]);
        x.replace(0);
        Due.is("blank spares are free, while off", x.look(4), 48 * 3 - 24);
        x.open();
        Due.is("and while on", x.look(4), 48 * 3 - 24);
        Due.is("live", x.look(11), 6);
    }
}
