import java.util.Random;

/**
 * Whatever happens, no block is lost: each reads as it was written last, or, if power was lost at
 * its last write, as before or behind it, and keeps to that. No stripe has a hole.
 */
public final class NoBlockLostTest {
    private static final int RUNS = 2000;
    /** As many blocks of the first rows are written and read. */
    private static final int MOST_BLOCKS = 12;
    /** An event has at most so many calls, and what comes behind it too. */
    private static final int EVENT_CALLS = 90;

    private final Random random;
    private final Field x;
    private final long[] blocks;
    private boolean on = true;
    private int maybe = -1;
    private long maybeNow;

    private NoBlockLostTest(int run) {
        random = new Random(run);
        int disks = 6 + random.nextInt(11);
        int width = 3 + random.nextInt(Math.min(6, disks - 3));
        x = new Field(disks, width, 48);
        blocks = new long[2 + random.nextInt(MOST_BLOCKS - 1)];
    }

    public static void main(String[] args) {
        Due.sentence("As long as what happens leaves at most one cell of a stripe lost or spoilt, no block is ever lost.");
        for (int run = 0; run < RUNS; run++) {
            new NoBlockLostTest(run).live();
        }
        Due.end();
    }

    private void live() {
        while (x.callsLeft() > EVENT_CALLS + MOST_BLOCKS) {
            happen();
            if (!on && random.nextInt(2) == 0) {
                x.lose(random.nextInt(3));
                on = x.open();
            }
            if (on) {
                settle();
                x.lose(0);
                isThere(random.nextInt(blocks.length));
            }
        }
        if (on) {
            for (int block = 0; block < blocks.length; block++) {
                isThere(block);
            }
        }
        Due.is("holes", x.look(Racks.HOLES), 0);
    }

    private void happen() {
        int disk = random.nextInt(x.disks);
        switch (random.nextInt(on ? 8 : 2)) {
            case 0: x.fail(disk); break;
            case 1: x.replace(disk); break;
            case 2: x.spoil(disk, random.nextInt(3), random.nextInt(70), 1, 1 + random.nextInt(255)); break;
            case 3: steps(0); break;
            case 4: steps(1); break;
            case 5: steps(2); break;
            default: write(); break;
        }
    }

    private void steps(int kind) {
        x.lose(random.nextInt(20));
        int count = 1 + random.nextInt(random.nextInt(4) == 0 ? 60 : 5);
        for (int i = 0; i < count && on; i++) {
            on = (kind == 0 ? x.rebuild() : kind == 1 ? x.copyBack() : x.scrub()) != -1;
        }
        Due.is("-1 is told when it is off alone", x.look(Racks.ON), on ? 1 : 0);
    }

    private void write() {
        int block = random.nextInt(blocks.length);
        long number = random.nextLong();
        x.lose(random.nextInt(7));
        on = Racks.write(x, block, number);
        if (on) {
            blocks[block] = number;
        } else {
            maybe = block;
            maybeNow = number;
        }
    }

    /** A write at which power was lost was done or not: what is read first stands. */
    private void settle() {
        if (maybe >= 0 && x.read(maybe, 0) == maybeNow) {
            blocks[maybe] = maybeNow;
        }
        maybe = -1;
    }

    private void isThere(int block) {
        Due.is("block " + block, x.read(block, 0), blocks[block]);
    }
}
