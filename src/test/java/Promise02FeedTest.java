/** Promise 2: feed. */
public final class Promise02FeedTest {
    public static void main(String[] args) {
        lowestBytes();
        behindTheTape();
        howMany();
        whileOff();
        wrongCount();
        exactlyFull();
        wouldBeTooMany();
        emptyAgain();
        Due.end();
    }

    private static void lowestBytes() {
        Due.sentence("The n lowest bytes of v, lowest first");
        long v = 0xF8F7F6F5F4F3F2F1L;
        long[] want = {0xF1L, 0xF2F1L, 0xF3F2F1L, 0xF4F3F2F1L, 0xF5F4F3F2F1L, 0xF6F5F4F3F2F1L, 0xF7F6F5F4F3F2F1L, v};
        for (int n = 1; n <= 8; n++) {
            Field x = new Field(6, 3, 48);
            Due.is("feed " + n, x.feed(n, v), n);
            x.write(0);
            Due.is("the bytes of feed " + n, x.read(0, 0), want[n - 1]);
            Due.is("none behind them", x.read(0, 1), 0);
        }
    }

    private static void behindTheTape() {
        Due.sentence("come behind the tape");
        Field x = new Field(6, 3, 48);
        x.feed(3, 0xFF00000000332211L);
        x.feed(1, -1L);
        x.feed(8, 0x8877665544332211L);
        x.write(0);
        Due.is("bytes 0 to 7", x.read(0, 0), 0x44332211FF332211L);
        Due.is("bytes 8 to 15", x.read(0, 1), 0x0000000088776655L);
        for (int i = 0; i < 64; i++) {
            x.feed(1, i + 1);
        }
        x.write(0);
        for (int k = 0; k < 8; k++) {
            Due.is("word " + k + " of single bytes", x.read(0, k), 0x0807060504030201L + 0x0808080808080808L * k);
        }
    }

    private static void howMany() {
        Due.sentence("how many it has.");
        Field x = new Field(6, 3, 48);
        int bytes = 0;
        for (int n = 1; n <= 8; n++) {
            bytes += n;
            Due.is("feed " + n, x.feed(n, 0), bytes);
            Due.is("the tape", x.look(Racks.TAPE), bytes);
        }
    }

    private static void whileOff() {
        Due.sentence("come behind the tape: how many it has.");
        Field x = new Field(6, 3, 48);
        x.feed(1, 1);
        x.off();
        Due.is("feed while off", x.feed(1, 2), 2);
        x.open();
        Due.is("the tape stays", x.look(Racks.TAPE), 2);
        x.write(0);
        Due.is("both bytes", x.read(0, 0), 513);
    }

    private static void wrongCount() {
        Due.sentence("Throws IllegalArgumentException when n is not 1 .. 8");
        Field x = new Field(6, 3, 48);
        x.feed(2, 5);
        for (int n : new int[] {-8, -1, 0, 9, 16, 64}) {
            Due.argument("feed(" + n + ")", x, () -> x.feed(n, 1));
        }
        for (int n : Racks.FAR) {
            Due.argument("feed(" + n + ")", x, () -> x.feed(n, 1));
        }
        Due.is("1", x.feed(1, 1), 3);
        Due.is("8", x.feed(8, 1), 11);
    }

    private static void exactlyFull() {
        Due.sentence("when it would have more than 64.");
        for (int n = 1; n <= 8; n++) {
            Field x = withBytes(64 - n);
            Due.is("to 64 with " + n, x.feed(n, -1L), 64);
            x.write(5);
            Due.is("the last byte", x.read(5, 7) >>> 56, 0xFF);
        }
    }

    private static void wouldBeTooMany() {
        Due.sentence("IllegalStateException when it would have more than 64.");
        for (int n = 1; n <= 8; n++) {
            int bytes = n;
            Field almost = withBytes(65 - n);
            Due.state("to 65 with " + n, almost, () -> almost.feed(bytes, -1L));
            Field full = withBytes(64);
            Due.state("a full tape with " + n, full, () -> full.feed(bytes, -1L));
            full.off();
            Due.state("a full tape with " + n + ", while off", full, () -> full.feed(bytes, -1L));
        }
    }

    private static Field withBytes(int count) {
        Field x = new Field(6, 3, 48);
        for (int i = 0; i < count; i++) {
            x.feed(1, 1 + i % 3);
        }
        return x;
    }

    private static void emptyAgain() {
        Due.sentence("IllegalStateException when it would have more than 64.");
        Field x = withBytes(64);
        x.write(0);
        Due.is("a tape that was used up has room", x.feed(8, 7), 8);
        Field y = withBytes(64);
        y.lose(1);
        y.write(0);
        Due.is("also when power was lost", y.feed(8, 7), 8);
    }
}
