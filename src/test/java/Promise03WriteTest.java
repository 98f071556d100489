/** Promise 3: write. */
public final class Promise03WriteTest {
    /** Of 6 disks with width 3: blocks 0 and 1 and parity of stripe 0 lie on the disks 0, 1 and 2. */
    private static StripeField field() {
        StripeField x = new StripeField(6, 3, 48);
        Racks.write(x, 0, 100);
        Racks.write(x, 1, 200);
        return x;
    }

    public static void main(String[] args) {
        allBlocks();
        zerosBehind();
        powerLost();
        withALostColumn();
        withASpoiltColumn();
        powerLostWithAHurtColumn();
        throughSpares();
        wrongInputs();
        Due.end();
    }

    private static void allBlocks() {
        StripeField x = new StripeField(9, 4, 50);
        Racks.fill(x);
        Due.is("four writes a block", x.look(1), 4 * x.look(5));
        Racks.areFilled("filled", x);
        x.fail(3);
        Racks.areFilled("disk 3 failed", x);
        for (int s = 0; s < x.look(7); s++) {
            Due.is("scrub", x.scrub(), 0);
        }
        Due.is("holes", x.look(6), 0);
    }

    private static void zerosBehind() {
        StripeField x = new StripeField(6, 3, 48);
        for (int i = 0; i < 8; i++) {
            x.feed(8, -1L);
        }
        x.write(3);
        x.feed(1, 9);
        Due.is("write a byte", x.write(3), true);
        for (int k = 0; k < 8; k++) {
            Due.is("word " + k, x.read(3, k), k == 0 ? 9 : 0);
        }
        Due.is("write an empty tape", x.write(3), true);
        Due.is("all 0s", x.read(3, 0), 0);
    }

    private static void powerLost() {
        for (int n = 1; n <= 5; n++) {
            StripeField x = field();
            Due.is("power lost at write " + n, Racks.cutWrite(x, 0, 101, n), n > 4);
            Due.is("on", x.look(0), n > 4 ? 1 : 0);
            Due.is("writes done", x.look(1), 8 + Math.min(n - 1, 4));
            Due.is("tape is used up", x.look(12), 0);
            if (n <= 4) {
                Due.is("open", x.open(), true);
                Due.is("opening's writes", x.look(1), 8 + (n - 1) + (n == 1 ? 0 : 2));
            }
            Due.is("the block", x.read(0, 0), n <= 2 ? 100 : 101);
            Due.is("the other", x.read(1, 0), 200);
            x.fail(1);
            Due.is("the other, reckoned", x.read(1, 0), 200);
        }
    }

    private static void withALostColumn() {
        StripeField own = field();
        own.fail(0);
        Due.is("the block is lost", Racks.write(own, 0, 101), true);
        Due.is("one write", own.look(1), 9);
        Due.is("read", own.read(0, 0), 101);
        Due.is("the other", own.read(1, 0), 200);

        StripeField other = field();
        other.fail(1);
        Due.is("the other is lost", Racks.write(other, 0, 101), true);
        Due.is("four writes", other.look(1), 12);
        Due.is("read", other.read(0, 0), 101);
        Due.is("the other", other.read(1, 0), 200);

        StripeField parity = field();
        parity.fail(2);
        Due.is("parity is lost", Racks.write(parity, 0, 101), true);
        Due.is("one write", parity.look(1), 9);
        Due.is("read", parity.read(0, 0), 101);
        Due.is("the other", parity.read(1, 0), 200);
    }

    private static void withASpoiltColumn() {
        for (int disk = 0; disk < 3; disk++) {
            StripeField x = field();
            Due.is("spoil", x.spoil(disk, 0, 3, 1, 1), true);
            Due.is("write", Racks.write(x, 0, 101), true);
            Due.is("four writes", x.look(1), 12);
            Due.is("spoilt", x.look(3), disk == 1 ? 1 : 0);
            Due.is("read", x.read(0, 0), 101);
            Due.is("the other", x.read(1, 0), 200);
        }
    }

    private static void powerLostWithAHurtColumn() {
        for (int disk = 0; disk < 3; disk++) {
            for (int n = 1; n <= 4; n++) {
                for (int way = 0; way < 2; way++) {
                    StripeField x = field();
                    boolean lost = way == 0;
                    Due.is("hurt", lost ? x.fail(disk) : x.spoil(disk, 0, 0, 8, 77), true);
                    boolean done = Racks.cutWrite(x, 0, 101, n);
                    boolean oneWrite = lost && disk != 1;
                    Due.is("write", done, oneWrite && n > 1);
                    if (!done) {
                        Due.is("open", x.open(), true);
                    }
                    String when = "disk " + disk + (lost ? " lost" : " spoilt") + ", power lost at " + n;
                    Due.is(when + ": the block", x.read(0, 0), n > 2 || done ? 101 : 100);
                    Due.is(when + ": the other", x.read(1, 0), 200);
                }
            }
        }
    }

    private static void throughSpares() {
        StripeField x = Racks.rebuilt();
        int before = x.look(1);
        Due.is("write to a spare", Racks.write(x, 0, 5), true);
        Due.is("four writes", x.look(1), before + 4);
        x.off();
        x.open();
        Due.is("the place has its tag", x.place(0, 0), 3);
        Due.is("read", x.read(0, 0), 5);
        x.fail(1);
        Due.is("the other, reckoned", x.read(1, 0), 1001);
    }

    private static void wrongInputs() {
        StripeField x = field();
        x.feed(4, 4);
        for (int block : new int[] {-1, 96, Integer.MIN_VALUE, Integer.MAX_VALUE}) {
            Due.argument("write(" + block + ")", x, () -> x.write(block));
        }
        Due.is("the last block", x.write(95), true);
        x.feed(4, 4);
        x.off();
        Due.state("write while off", x, () -> x.write(0));
        Due.argument("wrong block comes first", x, () -> x.write(96));
    }
}
