import java.util.Random;

/**
 * Whatever happens, no block is lost: each reads as it was written last, or, if power was lost at
 * its last write, as before or behind it, and keeps to that. No stripe has a hole.
 */
public final class NoBlockLostTest {
    private static final int RUNS = 300;
    private static final int EVENTS = 250;

    private final Random random;
    private final StripeField x;
    private final long[] blocks;
    private final int span;
    private int maybe = -1;
    private long maybeNow;

    private NoBlockLostTest(int run) {
        random = new Random(run);
        x = new StripeField(6 + random.nextInt(11), 3 + random.nextInt(6), 48);
        blocks = new long[x.look(5)];
        span = Math.min(blocks.length, 4 + random.nextInt(30));
    }

    public static void main(String[] args) {
        for (int run = 0; run < RUNS; run++) {
            new NoBlockLostTest(run).live();
        }
        Due.end();
    }

    private void live() {
        for (int event = 0; event < EVENTS; event++) {
            happen();
            if (x.look(0) == 0 && random.nextInt(2) == 0) {
                x.lose(random.nextInt(3));
                if (x.open()) {
                    x.lose(0);
                }
            }
            if (x.look(0) == 1) {
                settle();
                check();
            }
        }
        Due.is("holes", x.look(6), 0);
    }

    private void happen() {
        boolean on = x.look(0) == 1;
        int disk = random.nextInt(x.look(10));
        switch (random.nextInt(on ? 8 : 2)) {
            case 0: x.fail(disk); break;
            case 1: x.replace(disk); break;
            case 2: x.spoil(disk, random.nextInt(4), random.nextInt(70), 1, 1 + random.nextInt(255)); break;
            case 3: steps(0); break;
            case 4: steps(1); break;
            case 5: steps(2); break;
            default: write(); break;
        }
    }

    private void steps(int kind) {
        x.lose(random.nextInt(20));
        int count = 1 + random.nextInt(60);
        for (int i = 0; i < count && x.look(0) == 1; i++) {
            int answer = kind == 0 ? x.rebuild() : kind == 1 ? x.copyBack() : x.scrub();
            Due.is("-1 is told when it is off alone", answer == -1, x.look(0) == 0);
        }
    }

    private void write() {
        int block = random.nextInt(span);
        long number = random.nextLong();
        x.lose(random.nextInt(7));
        x.feed(8, number);
        if (x.write(block)) {
            blocks[block] = number;
            x.lose(0);
        } else {
            maybe = block;
            maybeNow = number;
        }
    }

    /** A write at which power was lost was done or not: what is read first stands. */
    private void settle() {
        if (maybe >= 0 && x.read(maybe, 0) == maybeNow) {
            blocks[maybe] = maybeNow;
        }
        maybe = -1;
    }

    private void check() {
        for (int block = 0; block < span; block++) {
            Due.is("block " + block, x.read(block, 0), blocks[block]);
        }
    }
}
