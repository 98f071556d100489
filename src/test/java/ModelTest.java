import java.util.Random;

/** Random runs, the same ones each time, of 512 calls each: StripeField answers what Model does. */
public final class ModelTest {
    private static final int RUNS = 400;

    public static void main(String[] args) {
        Due.sentence("All of the document");
        for (int run = 0; run < RUNS; run++) {
            run(run);
        }
        Due.end();
    }

    private static void run(int run) {
        Random random = new Random(run);
        int disks = 5 + random.nextInt(13);
        int width = 2 + random.nextInt(8);
        int rows = 47 + random.nextInt(19);
        StripeField x = new StripeField(disks, width, rows);
        Model m = new Model(disks, width, rows);
        // Few rows are used, so that what happens to a stripe comes together.
        int span = 1 + random.nextInt(4);
        int steadiness = 1 + random.nextInt(30);
        int count = 0;
        while (count < Field.CALLS) {
            Step step = new Step(random, m, span, steadiness);
            for (int again = 0; again < step.times && count < Field.CALLS; again++) {
                String name = "run " + run + " (" + disks + ", " + width + ", " + rows + "), call " + count + ": " + step;
                Due.is(name, step.answer(x), step.answer(m));
                count++;
            }
        }
    }

    /** One call with its arguments, of which a few are wrong. */
    private static final class Step {
        private static final int KINDS = 15;
        private static final String[] NAMES = {
            "write", "feed", "read", "lose", "off", "open", "fail", "replace", "spoil", "rebuild", "copyBack",
            "scrub", "look", "place", "feed"};
        final int kind;
        final int a;
        final int b;
        final int c;
        final int d;
        final long v;
        final int times;

        Step(Random random, Model x, int span, int steadiness) {
            int groups = (x.look(10) - 1) / x.look(9);
            boolean wrong = random.nextInt(60) == 0;
            boolean off = x.look(0) == 0;
            int pick = off && random.nextInt(3) == 0 ? 5 : random.nextInt(KINDS);
            // Going off by itself is rare, since power is lost so often.
            kind = pick == 4 && random.nextInt(steadiness) != 0 ? 12 : pick;
            int row = random.nextInt(span);
            int disk = random.nextInt(x.look(10));
            int column = random.nextInt(groups * x.look(9));
            int[] ordinary = {0, 0, 0, 0};
            switch (kind) {
                case 0: ordinary[0] = row * groups * (x.look(9) - 1) + random.nextInt(groups * (x.look(9) - 1)); break;
                case 2: ordinary[0] = row * groups * (x.look(9) - 1) + random.nextInt(groups * (x.look(9) - 1));
                    ordinary[1] = random.nextInt(8); break;
                case 1: case 14: ordinary[0] = 1 + random.nextInt(8); break;
                case 3: ordinary[0] = random.nextInt(8); break;
                case 8: ordinary[0] = disk; ordinary[1] = row; ordinary[3] = random.nextInt(2) == 0 ? 8 : 1 + random.nextInt(8);
                    ordinary[2] = random.nextInt(2) == 0 ? 62 : random.nextInt(71 - ordinary[3]); break;
                case 12: ordinary[0] = random.nextInt(13); break;
                case 13: ordinary[0] = row; ordinary[1] = column; break;
                default: ordinary[0] = disk; break;
            }
            if (wrong) {
                int[] edges = {-1, 0, 8, 9, 16, 48, 64, 70, Integer.MIN_VALUE, Integer.MAX_VALUE};
                ordinary[random.nextInt(4)] = edges[random.nextInt(edges.length)];
            }
            // The document does not tell whether NEXT is moved by a call at which power is lost.
            a = kind == 12 && off && ordinary[0] == Racks.NEXT ? Racks.LOST : ordinary[0];
            b = ordinary[1];
            c = ordinary[2];
            d = ordinary[3];
            v = mask(random);
            boolean inSteps = kind >= 9 && kind <= 11;
            times = inSteps && random.nextInt(4) == 0 ? 1 + random.nextInt(60) : 1;
        }

        /** Often of a single bit, so that a spoilt cell is at times as it was written again. */
        private static long mask(Random random) {
            int way = random.nextInt(4);
            return way == 0 ? random.nextLong() : way == 1 ? 1 : way == 2 ? Racks.forgedMask(1 + random.nextInt(3)) : 256;
        }

        String answer(StripeField x) {
            try {
                switch (kind) {
                    case 0: return "" + x.write(a);
                    case 2: return "" + x.read(a, b);
                    case 3: x.lose(a); return "done";
                    case 4: x.off(); return "done";
                    case 5: return "" + x.open();
                    case 6: return "" + x.fail(a);
                    case 7: return "" + x.replace(a);
                    case 8: return "" + x.spoil(a, b, c, d, v);
                    case 9: return "" + x.rebuild();
                    case 10: return "" + x.copyBack();
                    case 11: return "" + x.scrub();
                    case 12: return "" + x.look(a);
                    case 13: return "" + x.place(a, b);
                    default: return "" + x.feed(a, v);
                }
            } catch (RuntimeException e) {
                return e.getClass().getName();
            }
        }

        String answer(Model m) {
            try {
                switch (kind) {
                    case 0: return "" + m.write(a);
                    case 2: return "" + m.read(a, b);
                    case 3: m.lose(a); return "done";
                    case 4: m.off(); return "done";
                    case 5: return "" + m.open();
                    case 6: return "" + m.fail(a);
                    case 7: return "" + m.replace(a);
                    case 8: return "" + m.spoil(a, b, c, d, v);
                    case 9: return "" + m.rebuild();
                    case 10: return "" + m.copyBack();
                    case 11: return "" + m.scrub();
                    case 12: return "" + m.look(a);
                    case 13: return "" + m.place(a, b);
                    default: return "" + m.feed(a, v);
                }
            } catch (RuntimeException e) {
                return e.getClass().getName();
            }
        }

        @Override
        public String toString() {
            return NAMES[kind] + "(" + a + ", " + b + ", " + c + ", " + d + ", " + v + ")";
        }
    }
}
