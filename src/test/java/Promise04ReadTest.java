/** Promise 4: read. */
public final class Promise04ReadTest {
    public static void main(String[] args) {
        wordsOfABlock();
        hurt();
        wrongInputs();
        Due.end();
    }

    private static StripeField eightWords() {
        StripeField x = new StripeField(8, 5, 48);
        for (int k = 0; k < 8; k++) {
            x.feed(8, word(k));
        }
        x.write(2);
        return x;
    }

    private static long word(int k) {
        return 0x8000000000000001L + 0x0101010101010101L * k;
    }

    private static void areThere(String when, StripeField x) {
        for (int k = 0; k < 8; k++) {
            Due.is(when + ": word " + k, x.read(2, k), word(k));
        }
    }

    private static void wordsOfABlock() {
        StripeField x = eightWords();
        areThere("written", x);
        Due.is("reading writes nothing", x.look(1), 4);
        Due.is("another block", x.read(3, 0), 0);
    }

    private static void hurt() {
        for (int at = 0; at < 70; at++) {
            StripeField x = eightWords();
            Due.is("spoil byte " + at, x.spoil(2, 0, at, 1, 16), true);
            areThere("byte " + at + " spoilt", x);
        }
        StripeField x = eightWords();
        x.fail(2);
        areThere("lost", x);
        x.rebuild();
        areThere("in a spare", x);
        Due.is("spoil the spare", x.spoil(x.place(0, 2), 0, 8, 1, 16), true);
        areThere("spare spoilt", x);
        x.off();
        x.open();
        Due.is("lost once more", x.place(0, 2), -1);
        areThere("spare not found", x);
    }

    private static void wrongInputs() {
        StripeField x = eightWords();
        int blocks = x.look(5);
        for (int block : new int[] {-1, blocks, Integer.MIN_VALUE, Integer.MAX_VALUE}) {
            Due.argument("read(" + block + ", 0)", x, () -> x.read(block, 0));
        }
        for (int k : new int[] {-1, 8, Integer.MIN_VALUE, Integer.MAX_VALUE}) {
            Due.argument("read(0, " + k + ")", x, () -> x.read(0, k));
        }
        Due.is("the last block", x.read(blocks - 1, 7), 0);
        x.off();
        Due.state("read while off", x, () -> x.read(0, 0));
        Due.argument("wrong block comes first", x, () -> x.read(blocks, 0));
        Due.argument("wrong k comes first", x, () -> x.read(0, 8));
    }
}
