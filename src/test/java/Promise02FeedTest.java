/** Promise 2: feed. */
public final class Promise02FeedTest {
    public static void main(String[] args) {
        bytesInTurn();
        full();
        wrongInputs();
        whileOff();
        Due.end();
    }

    private static void bytesInTurn() {
        StripeField x = new StripeField(6, 3, 48);
        Due.is("feed 3", x.feed(3, 0xFF00000000332211L), 3);
        Due.is("feed 1", x.feed(1, -1L), 4);
        Due.is("feed 8", x.feed(8, 0x8877665544332211L), 12);
        Due.is("tape", x.look(12), 12);
        Due.is("write", x.write(0), true);
        Due.is("bytes 0 to 7", x.read(0, 0), 0x44332211FF332211L);
        Due.is("bytes 8 to 15", x.read(0, 1), 0x0000000088776655L);
        Due.is("tape is used up", x.look(12), 0);
    }

    private static void full() {
        StripeField x = new StripeField(6, 3, 48);
        for (int i = 1; i <= 7; i++) {
            Due.is("feed", x.feed(8, i), 8 * i);
        }
        Due.is("feed 7", x.feed(7, -1L), 63);
        Due.state("64 and one more", x, () -> x.feed(2, 1));
        Due.state("64 and seven more", x, () -> x.feed(8, 1));
        Due.is("feed to 64", x.feed(1, 0x7F), 64);
        Due.state("feed a full tape", x, () -> x.feed(1, 1));
        Due.argument("wrong n comes first", x, () -> x.feed(0, 1));
        Due.argument("wrong n comes first", x, () -> x.feed(9, 1));
        x.write(5);
        for (int k = 0; k < 7; k++) {
            Due.is("word " + k, x.read(5, k), k + 1);
        }
        Due.is("word 7", x.read(5, 7), 0x7FFFFFFFFFFFFFFFL);
    }

    private static void wrongInputs() {
        StripeField x = new StripeField(6, 3, 48);
        x.feed(2, 5);
        for (int n : new int[] {0, -1, 9, 64, Integer.MIN_VALUE, Integer.MAX_VALUE}) {
            Due.argument("feed(" + n + ")", x, () -> x.feed(n, 1));
        }
    }

    private static void whileOff() {
        StripeField x = new StripeField(6, 3, 48);
        x.feed(1, 1);
        x.off();
        Due.is("feed while off", x.feed(1, 2), 2);
        x.open();
        Due.is("the tape stays", x.look(12), 2);
        x.write(0);
        Due.is("both bytes", x.read(0, 0), 513);
    }
}
