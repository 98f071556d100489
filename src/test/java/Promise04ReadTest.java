/** Promise 4: read. How a block is reckoned is in TermsReadTest. */
public final class Promise04ReadTest {
    public static void main(String[] args) {
        eightBytes();
        writesNothing();
        noSuchBlock();
        wrongWord();
        whileOff();
        Due.end();
    }

    private static Field eightWords(int block) {
        Field x = new Field(8, 5, 48);
        for (int k = 0; k < 8; k++) {
            x.feed(8, word(k));
        }
        x.write(block);
        return x;
    }

    private static long word(int k) {
        return 0x8000000000000001L + 0x0102030405060708L * k;
    }

    private static void eightBytes() {
        Due.sentence("Eight bytes of a block, from 8 * k on, lowest first, as a number.");
        for (int block : new int[] {0, 2, 3, 4, 191}) {
            Field x = eightWords(block);
            for (int k = 0; k < 8; k++) {
                Due.is("word " + k, x.read(block, k), word(k));
                Due.is("of another block", x.read((block + 1) % 192, k), 0);
            }
        }
        Field x = new Field(8, 5, 48);
        x.feed(8, Long.MIN_VALUE);
        x.feed(8, -1L);
        x.write(0);
        Due.is("the highest bit alone", x.read(0, 0), Long.MIN_VALUE);
        Due.is("all bits", x.read(0, 1), -1L);
    }

    private static void writesNothing() {
        Due.sentence("Eight bytes of a block, from 8 * k on");
        Field x = eightWords(2);
        x.lose(1);
        x.fail(2);
        Due.is("read", x.read(2, 7), word(7));
        Due.is("it is on", x.look(Racks.ON), 1);
        Due.is("no write", x.look(Racks.WRITES), 4);
        Due.is("it stays lost", x.look(Racks.LOST) > 0, true);
    }

    private static void noSuchBlock() {
        Due.sentence("Throws IllegalArgumentException when there is no such block");
        for (int[] sizes : new int[][] {{6, 3, 48}, {7, 3, 48}, {16, 8, 64}, {16, 3, 64}}) {
            Field x = new Field(sizes[0], sizes[1], sizes[2]);
            Due.argument("-1", x, () -> x.read(-1, 0));
            Due.argument("one behind the last", x, () -> x.read(x.blocks, 0));
            Due.argument("min", x, () -> x.read(Integer.MIN_VALUE, 0));
            Due.argument("max", x, () -> x.read(Integer.MAX_VALUE, 0));
            Due.is("the first one", x.read(0, 0), 0);
            Due.is("the last one", x.read(x.blocks - 1, 0), 0);
        }
    }

    private static void wrongWord() {
        Due.sentence("or k is not 0 .. 7");
        Field x = eightWords(2);
        for (int k : new int[] {-1, 8, 9, 64}) {
            Due.argument("k " + k, x, () -> x.read(2, k));
        }
        for (int k : Racks.FAR) {
            Due.argument("k " + k, x, () -> x.read(2, k));
        }
        Due.argument("the last block", x, () -> x.read(191, 8));
        Due.is("0", x.read(2, 0), word(0));
        Due.is("7", x.read(2, 7), word(7));
    }

    private static void whileOff() {
        Due.sentence("IllegalStateException when it is off.");
        Field x = eightWords(2);
        x.off();
        Due.state("off", x, () -> x.read(2, 0));
        Due.argument("no such block is told first", x, () -> x.read(192, 0));
        Due.argument("a wrong k too", x, () -> x.read(2, 8));
        x.open();
        Due.is("opened", x.read(2, 0), word(0));
        Racks.cutWrite(x, 2, 1, 1);
        Due.state("power lost", x, () -> x.read(2, 0));
    }
}
