import java.util.ArrayList;
import java.util.HashSet;
import java.util.List;
import java.util.Set;

/** Terms: the layout. */
public final class TermsLayoutTest {
    public static void main(String[] args) {
        widthBelowTheDisks();
        groupsAreCutOff();
        byHand();
        disksOfPositions();
        stepWrapsAround();
        stripes();
        lastIsParity();
        spares();
        blocks();
        logs();
        Due.end();
    }

    private static void widthBelowTheDisks() {
        Due.sentence("WIDTH k is 3 .. 8, less than the number n of disks.");
        for (int disks = 6; disks <= 9; disks++) {
            Field x = new Field(disks, disks - 1, 48);
            Due.is("one stripe a row", x.look(7), 48);
            Due.is("one spare a row", x.look(Racks.FREE), 48);
            Racks.fill(x, 20);
            x.fail(0);
            Racks.areFilled("disk 0 failed", x, 20);
        }
    }

    private static void groupsAreCutOff() {
        Due.sentence("GROUPS = (n - 1) / k, cut off.");
        // disks, width, groups
        int[][] cases = {{6, 3, 1}, {7, 3, 2}, {8, 3, 2}, {9, 3, 2}, {10, 3, 3}, {16, 3, 5}, {8, 4, 1}, {9, 4, 2}, {16, 4, 3},
            {10, 5, 1}, {11, 5, 2}, {15, 5, 2}, {16, 5, 3}, {12, 6, 1}, {13, 6, 2}, {14, 7, 1}, {15, 7, 2}, {16, 8, 1}, {9, 8, 1}};
        for (int[] c : cases) {
            Field x = new Field(c[0], c[1], 48);
            Due.is("stripes of " + c[0] + ", " + c[1], x.look(7), 48 * c[2]);
            Due.is("the last position", x.place(0, c[1] * c[2] - 1), c[1] * c[2] - 1);
            Due.argument("no position more", x, () -> x.place(0, c[1] * c[2]));
        }
    }

    /** 8 disks: steps 1, 3, 5, 7; 16 disks: the odd ones; 7: all. */
    private static void byHand() {
        Due.sentence("In a row r, position p (0 .. n - 1) lies on disk (r + p * t) mod n, at offset r");
        hasPlaces(new Field(8, 3, 48), 0, new int[][] {{0, 1, 2, 3, 4, 5}, {1, 4, 7, 2, 5, 0}, {2, 7, 4, 1, 6, 3},
            {3, 2, 1, 0, 7, 6}, {4, 5, 6, 7, 0, 1}, {5, 0, 3, 6, 1, 4}});
        hasPlaces(new Field(7, 3, 64), 5, new int[][] {{5, 4, 3, 2, 1, 0}, {6, 0, 1, 2, 3, 4}, {0, 2, 4, 6, 1, 3}});
        hasPlaces(new Field(16, 5, 64), 63, new int[][] {{15, 14, 13, 12, 11, 10, 9, 8, 7, 6, 5, 4, 3, 2, 1}});
        hasPlaces(new Field(6, 3, 48), 46, new int[][] {{4, 5, 0}, {5, 4, 3}});
        Field x = new Field(8, 3, 48);
        Due.is("at offset r, and no other", x.spoil(4, 1, 0, 1, 1), true);
        Due.is("its stripe has another spoilt cell now", x.spoil(1, 1, 0, 1, 1), false);
        Due.is("that of row 0 has not", x.spoil(1, 0, 0, 1, 1), true);
    }

    private static void hasPlaces(Field x, int first, int[][] want) {
        for (int row = 0; row < want.length; row++) {
            for (int p = 0; p < want[row].length; p++) {
                Due.is("place(" + (first + row) + ", " + p + ")", x.place(first + row, p), want[row][p]);
            }
        }
    }

    private static void disksOfPositions() {
        Due.sentence("lies on disk (r + p * t) mod n");
        for (int disks = 6; disks <= 16; disks++) {
            for (int width = 3; width <= 8 && width < disks; width++) {
                hasHomes(new Field(disks, width, 48));
            }
        }
    }

    private static void hasHomes(Field x) {
        List<Integer> steps = stepsOf(x.disks);
        Field asked = x;
        for (int row = 0; row < x.rows; row++) {
            if (asked.callsLeft() < x.positions) {
                asked = x.fresh();
            }
            Set<Integer> used = new HashSet<>();
            for (int p = 0; p < x.positions; p++) {
                int disk = asked.place(row, p);
                Due.is("place(" + row + ", " + p + ")", disk, (row + p * steps.get(row % steps.size())) % x.disks);
                used.add(disk);
            }
            Due.is("on disks of their own", used.size(), x.positions);
        }
    }

    private static List<Integer> stepsOf(int disks) {
        List<Integer> steps = new ArrayList<>();
        for (int t = 1; t < disks; t++) {
            if (gcd(t, disks) == 1) {
                steps.add(t);
            }
        }
        return steps;
    }

    private static int gcd(int a, int b) {
        return b == 0 ? a : gcd(b, a % b);
    }

    private static void stepWrapsAround() {
        Due.sentence("t is the one with number r mod m, from 0, of the m numbers 1 .. n - 1 that have no divisor above 1 in common with n.");
        int[][] steps = {{1, 5}, {1, 2, 3, 4, 5, 6}, {1, 3, 5, 7}, {1, 2, 4, 5, 7, 8}, {1, 3, 7, 9}, {1, 2, 3, 4, 5, 6, 7, 8, 9, 10},
            {1, 5, 7, 11}, {1, 2, 3, 4, 5, 6, 7, 8, 9, 10, 11, 12}, {1, 3, 5, 9, 11, 13}, {1, 2, 4, 7, 8, 11, 13, 14},
            {1, 3, 5, 7, 9, 11, 13, 15}};
        for (int disks = 6; disks <= 16; disks++) {
            Field x = new Field(disks, 3, 64);
            int[] t = steps[disks - 6];
            for (int row = 0; row < 64; row++) {
                Due.is("step of row " + row + " of " + disks, Math.floorMod(x.place(row, 1) - x.place(row, 0), disks), t[row % t.length]);
            }
        }
    }

    /** A second cell of a stripe is not spoilt, one of the next stripe is. */
    private static void stripes() {
        Due.sentence("STRIPE s: row s / GROUPS, positions k * (s mod GROUPS) + j, its COLUMNS j 0 .. k - 1");
        for (int[] sizes : new int[][] {{6, 3}, {7, 3}, {9, 4}, {16, 5}, {16, 8}}) {
            Field x = new Field(sizes[0], sizes[1], 48);
            for (int stripe : new int[] {0, 1, x.groups, x.stripes - 1}) {
                isOneStripe(x.fresh(), stripe);
            }
        }
    }

    private static void isOneStripe(Field x, int stripe) {
        int row = stripe / x.groups;
        int first = x.width * (stripe % x.groups);
        x.spoil(x.place(row, first + x.width - 1), row, 0, 1, 1);
        for (int p = 0; p < x.positions; p++) {
            boolean ofIt = p >= first && p < first + x.width - 1;
            Due.is("position " + p + " beside stripe " + stripe, x.twin().spoil(x.place(row, p), row, 1, 1, 1), !ofIt);
        }
        Field twin = x.twin();
        for (int s = 0; s < x.stripes && s <= stripe && twin.callsLeft() > 0; s++) {
            Due.is("scrub of " + s, twin.scrub(), s == stripe ? 1 : 0);
        }
    }

    /** One write alone goes to a stripe whose parity is lost, and to a block that is lost. */
    private static void lastIsParity() {
        Due.sentence("the last one is PARITY, the others DATA.");
        for (int width = 3; width <= 8; width++) {
            for (int lost = 0; lost < width; lost++) {
                Field x = new Field(10, width, 48);
                Racks.fill(x, width - 1);
                int before = x.look(Racks.WRITES);
                x.fail(lost);
                Racks.write(x, 0, 5);
                Due.is("column " + lost + " of " + width + " lost", x.look(Racks.WRITES),
                    before + (lost == 0 || lost == width - 1 ? 1 : 4));
                Racks.read("all data", x, width - 1, block -> block == 0 ? 5 : 1000 + block);
            }
        }
    }

    private static void spares() {
        Due.sentence("The positions from k * GROUPS on are SPARES.");
        for (int disks = 6; disks <= 16; disks++) {
            for (int width = 3; width <= 8 && width < disks; width++) {
                Field x = new Field(disks, width, 48);
                int spares = disks - width * ((disks - 1) / width);
                Due.is("spares of " + disks + ", " + width, x.look(Racks.FREE), 48 * spares);
                for (int disk = 0; disk < disks; disk++) {
                    Due.is("disk " + disk + " in row 0", x.twin().spoil(disk, 0, 0, 1, 1), disk < disks - spares);
                }
                x.fail(0);
                x.rebuild();
                Due.is("the first one is taken first", x.place(0, 0), disks - spares);
            }
        }
    }

    private static void blocks() {
        Due.sentence("BLOCK b is column b mod (k - 1) of stripe b / (k - 1).");
        for (int[] sizes : new int[][] {{6, 3}, {9, 4}, {16, 8}}) {
            int blocks = new Field(sizes[0], sizes[1], 48).blocks;
            for (int block = 0; block < blocks; block += block < 20 || block > blocks - 20 ? 1 : 7) {
                Field x = new Field(sizes[0], sizes[1], 48);
                int stripe = block / (x.width - 1);
                int position = x.width * (stripe % x.groups) + block % (x.width - 1);
                Due.is("fail", x.fail(x.place(stripe / x.groups, position)), true);
                Racks.write(x, block, block);
                Due.is("block " + block + " is lost: one write", x.look(Racks.WRITES), 1);
                Due.is("read", x.read(block, 0), block);
            }
        }
    }

    /** The log that a write leaves is on the disk of parity: it is gone with that disk, and with no other. */
    private static void logs() {
        Due.sentence("The cells at the offset ROWS are the disks' LOGS.");
        for (int rows : new int[] {48, 64}) {
            for (int disk = 0; disk < 6; disk++) {
                Field x = new Field(6, 3, rows);
                Racks.cutWrite(x, 0, 5, 2);
                x.fail(disk);
                x.open();
                Due.is("writes of opening, disk " + disk + " failed", x.look(Racks.WRITES) - 1, disk == 2 ? 0 : disk == 0 ? 1 : 2);
            }
            Field x = new Field(6, 3, rows);
            Due.argument("no log is spoilt", x, () -> x.spoil(2, rows, 0, 1, 1));
        }
    }
}
