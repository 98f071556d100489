import java.math.BigInteger;
import java.util.ArrayList;
import java.util.HashSet;
import java.util.List;
import java.util.Set;

/** Promise 15: place. */
public final class Promise15PlaceTest {
    public static void main(String[] args) {
        for (int disks = 6; disks <= 16; disks++) {
            for (int width = 3; width <= 8 && width < disks; width++) {
                homes(new StripeField(disks, width, 48 + disks), disks, width, 48 + disks);
            }
        }
        byHand();
        moved();
        blocks();
        wrongInputs();
        Due.end();
    }

    private static void homes(StripeField x, int disks, int width, int rows) {
        List<Integer> steps = new ArrayList<>();
        for (int t = 1; t < disks; t++) {
            if (BigInteger.valueOf(t).gcd(BigInteger.valueOf(disks)).intValue() == 1) {
                steps.add(t);
            }
        }
        for (int row = 0; row < rows; row++) {
            Set<Integer> used = new HashSet<>();
            for (int p = 0; p < width * ((disks - 1) / width); p++) {
                int want = (row + p * steps.get(row % steps.size())) % disks;
                Due.is("place(" + row + ", " + p + ") of " + disks + ", " + width, x.place(row, p), want);
                used.add(x.place(row, p));
            }
            Due.is("on disks of their own", used.size(), width * ((disks - 1) / width));
        }
    }

    /** 8 disks: steps 1, 3, 5, 7. */
    private static void byHand() {
        StripeField x = new StripeField(8, 3, 48);
        int[][] want = {{0, 1, 2, 3, 4, 5}, {1, 4, 7, 2, 5, 0}, {2, 7, 4, 1, 6, 3}, {3, 2, 1, 0, 7, 6}, {4, 5, 6, 7, 0, 1}};
        for (int row = 0; row < want.length; row++) {
            for (int p = 0; p < 6; p++) {
                Due.is("place(" + row + ", " + p + ")", x.place(row, p), want[row][p]);
            }
        }
    }

    private static void moved() {
        StripeField x = new StripeField(6, 3, 48);
        x.fail(0);
        Due.is("lost", x.place(0, 0), -1);
        Due.is("another", x.place(0, 1), 1);
        x.rebuild();
        Due.is("in a spare", x.place(0, 0), 3);
        x.off();
        Due.is("while off", x.place(0, 0), 3);
        Due.is("lost while off", x.place(1, 1), -1);
        x.replace(0);
        x.open();
        x.copyBack();
        Due.is("home", x.place(0, 0), 0);
        x.fail(0);
        Due.is("lost again", x.place(0, 0), -1);
    }

    /** Block b is column b mod (k - 1) of stripe b / (k - 1): failing its disk alone makes it reckoned. */
    private static void blocks() {
        StripeField x = new StripeField(9, 4, 48);
        for (int block = 0; block < x.look(5); block++) {
            int stripe = block / 3;
            int position = 4 * (stripe % 2) + block % 3;
            x.off();
            x.open();
            int before = x.look(1);
            Due.is("fail", x.fail(x.place(stripe / 2, position)), true);
            Racks.write(x, block, block);
            Due.is("the block is lost: one write", x.look(1), before + 1);
            Due.is("read", x.read(block, 0), block);
            x = new StripeField(9, 4, 48);
        }
    }

    private static void wrongInputs() {
        StripeField x = new StripeField(7, 3, 50);
        for (int wrong : new int[] {-1, Integer.MIN_VALUE, Integer.MAX_VALUE}) {
            Due.argument("row " + wrong, x, () -> x.place(wrong, 0));
            Due.argument("position " + wrong, x, () -> x.place(0, wrong));
        }
        Due.argument("row 50, the logs", x, () -> x.place(50, 0));
        Due.argument("position 6, a spare", x, () -> x.place(0, 6));
        Due.argument("position 7", x, () -> x.place(0, 7));
        Due.is("the last one", x.place(49, 5) >= 0, true);
        x.off();
        Due.argument("while off too", x, () -> x.place(50, 0));
    }
}
