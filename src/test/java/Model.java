import java.util.ArrayList;
import java.util.List;

/**
 * A second reading of the document, as plain as can be: cells are bytes, every check is reckoned
 * anew, and power that is lost is an exception. ModelTest holds StripeField against it.
 */
final class Model {
    private static final class PowerLost extends Exception {
        private static final long serialVersionUID = 1L;
    }

    private final int n;
    private final int k;
    private final int rows;
    private final int groups;
    private final List<Integer> steps = new ArrayList<>();
    private final boolean[] failed;
    /** By disk and offset; null is blank. */
    private final byte[][][] cells;
    private final byte[][][] writtenLast;
    /** By row and position: the position whose cell is the place, or -1. */
    private int[][] places;
    private final List<Byte> tape = new ArrayList<>();
    private boolean on = true;
    private long fuse = 0;
    private int writes = 0;
    private int next = 0;
    private int holes = 0;

    Model(int disks, int width, int rows) {
        n = disks < 6 || disks > 16 ? 8 : disks;
        k = width < 3 || width > 8 || width >= n ? 3 : width;
        this.rows = rows < 48 || rows > 64 ? 48 : rows;
        groups = (n - 1) / k;
        for (int t = 1; t < n; t++) {
            if (gcd(t, n) == 1) {
                steps.add(t);
            }
        }
        failed = new boolean[n];
        cells = new byte[n][this.rows + 1][];
        writtenLast = new byte[n][this.rows + 1][];
        for (int r = 0; r < this.rows; r++) {
            for (int p = 0; p < n; p++) {
                set(disk(r, p), r, new byte[64], p < k * groups ? p + 1 : 0);
            }
        }
        for (int d = 0; d < n; d++) {
            set(d, this.rows, new byte[64], 0);
        }
        places = found();
    }

    private static int gcd(int a, int b) {
        return b == 0 ? a : gcd(b, a % b);
    }

    private int disk(int r, int p) {
        return (r + p * steps.get(r % steps.size())) % n;
    }

    private byte[] home(int r, int p) {
        return cells[disk(r, p)][r];
    }

    private static byte[] made(byte[] block, int tag) {
        byte[] cell = new byte[70];
        System.arraycopy(block, 0, cell, 0, 64);
        cell[64] = (byte) tag;
        cell[65] = (byte) (tag >> 8);
        long check = Racks.checkOf(cell);
        for (int i = 0; i < 4; i++) {
            cell[66 + i] = (byte) (check >> (8 * i));
        }
        return cell;
    }

    private void set(int d, int offset, byte[] block, int tag) {
        cells[d][offset] = made(block, tag);
        writtenLast[d][offset] = cells[d][offset].clone();
    }

    private void put(int d, int offset, byte[] block, int tag) throws PowerLost {
        if (fuse == 1) {
            goOff();
            throw new PowerLost();
        }
        fuse = fuse > 0 ? fuse - 1 : 0;
        writes++;
        set(d, offset, block, tag);
    }

    private void goOff() {
        on = false;
        fuse = 0;
    }

    private static int tag(byte[] cell) {
        return (cell[64] & 255) | (cell[65] & 255) << 8;
    }

    private static boolean valid(byte[] cell) {
        return cell != null && java.util.Arrays.equals(cell, made(java.util.Arrays.copyOf(cell, 64), tag(cell)));
    }

    private int[][] found() {
        int[][] found = new int[rows][k * groups];
        for (int r = 0; r < rows; r++) {
            for (int p = 0; p < k * groups; p++) {
                found[r][p] = -1;
                for (int q = n - 1; q >= k * groups; q--) {
                    if (!failed[disk(r, q)] && valid(home(r, q)) && tag(home(r, q)) == p + 1) {
                        found[r][p] = q;
                    }
                }
                if (!failed[disk(r, p)] && home(r, p) != null) {
                    found[r][p] = p;
                }
            }
        }
        return found;
    }

    private int[][] places() {
        return on ? places : found();
    }

    private boolean free(int[][] places, int r, int q) {
        for (int place : places[r]) {
            if (place == q) {
                return false;
            }
        }
        return true;
    }

    private int row(int s) {
        return s / groups;
    }

    private int position(int s, int j) {
        return k * (s % groups) + j;
    }

    /** The cell that is the place of a column, or null. */
    private byte[] cell(int[][] places, int s, int j) {
        int q = places[row(s)][position(s, j)];
        return q < 0 ? null : home(row(s), q);
    }

    private void putColumn(int s, int j, byte[] block) throws PowerLost {
        put(disk(row(s), places[row(s)][position(s, j)]), row(s), block, position(s, j) + 1);
    }

    private static byte[] xor(byte[] a, byte[] b) {
        byte[] c = new byte[64];
        for (int i = 0; i < 64; i++) {
            c[i] = (byte) (a[i] ^ b[i]);
        }
        return c;
    }

    private byte[] reckoned(int s, int j) {
        byte[] sum = new byte[64];
        for (int i = 0; i < k; i++) {
            if (i != j) {
                sum = xor(sum, cell(places, s, i));
            }
        }
        return sum;
    }

    private byte[] asRead(int s, int j) {
        byte[] cell = cell(places, s, j);
        return valid(cell) ? java.util.Arrays.copyOf(cell, 64) : reckoned(s, j);
    }

    private int hurt(int[][] places, int s, int failing) {
        int hurt = 0;
        for (int j = 0; j < k; j++) {
            int q = places[row(s)][position(s, j)];
            if (q < 0 || disk(row(s), q) == failing || !valid(home(row(s), q))) {
                hurt++;
            }
        }
        return hurt;
    }

    private static void need(boolean right) {
        if (!right) {
            throw new IllegalArgumentException();
        }
    }

    private void needOn() {
        if (!on) {
            throw new IllegalStateException();
        }
    }

    private int blocks() {
        return rows * groups * (k - 1);
    }

    int feed(int count, long v) {
        need(count >= 1 && count <= 8);
        if (tape.size() + count > 64) {
            throw new IllegalStateException();
        }
        for (int i = 0; i < count; i++) {
            tape.add((byte) (v >> (8 * i)));
        }
        return tape.size();
    }

    boolean write(int block) {
        need(block >= 0 && block < blocks());
        needOn();
        byte[] fresh = new byte[64];
        for (int i = 0; i < tape.size(); i++) {
            fresh[i] = tape.get(i);
        }
        tape.clear();
        try {
            writeBlock(block / (k - 1), block % (k - 1), fresh);
            return true;
        } catch (PowerLost e) {
            return false;
        }
    }

    private void writeBlock(int s, int j, byte[] fresh) throws PowerLost {
        if (cell(places, s, k - 1) == null) {
            putColumn(s, j, fresh);
            return;
        }
        byte[] others = new byte[64];
        for (int i = 0; i < k - 1; i++) {
            if (i != j) {
                others = xor(others, asRead(s, i));
            }
        }
        if (cell(places, s, j) == null) {
            putColumn(s, k - 1, xor(others, fresh));
            return;
        }
        int d = disk(row(s), places[row(s)][position(s, k - 1)]);
        put(d, rows, others, 1 + 8 * s + j);
        putColumn(s, j, fresh);
        putColumn(s, k - 1, xor(others, fresh));
        put(d, rows, new byte[64], 0);
    }

    long read(int block, int word) {
        need(block >= 0 && block < blocks() && word >= 0 && word < 8);
        needOn();
        byte[] bytes = asRead(block / (k - 1), block % (k - 1));
        long v = 0;
        for (int i = 7; i >= 0; i--) {
            v = v << 8 | (bytes[8 * word + i] & 255);
        }
        return v;
    }

    void lose(int count) {
        need(count >= 0);
        fuse = count;
    }

    void off() {
        needOn();
        goOff();
    }

    boolean open() {
        if (on) {
            throw new IllegalStateException();
        }
        on = true;
        next = 0;
        places = found();
        try {
            mend();
            return true;
        } catch (PowerLost e) {
            return false;
        }
    }

    private void mend() throws PowerLost {
        for (int d = 0; d < n; d++) {
            byte[] log = cells[d][rows];
            if (!failed[d] && valid(log) && tag(log) > 0) {
                int s = (tag(log) - 1) / 8;
                int j = (tag(log) - 1) % 8;
                int q = places[row(s)][position(s, k - 1)];
                if (q >= 0 && disk(row(s), q) == d && valid(cell(places, s, j))) {
                    putColumn(s, k - 1, xor(log, cell(places, s, j)));
                }
                put(d, rows, new byte[64], 0);
            }
        }
        for (int r = 0; r < rows; r++) {
            for (int q = k * groups; q < n; q++) {
                if (free(places, r, q) && !failed[disk(r, q)] && valid(home(r, q)) && tag(home(r, q)) > 0) {
                    put(disk(r, q), r, new byte[64], 0);
                }
            }
        }
    }

    boolean fail(int d) {
        need(d >= 0 && d < n);
        if (failed[d]) {
            return false;
        }
        for (int s = 0; s < rows * groups; s++) {
            if (hurt(places(), s, d) > 1) {
                return false;
            }
        }
        for (int r = 0; on && r < rows; r++) {
            for (int p = 0; p < k * groups; p++) {
                if (places[r][p] >= 0 && disk(r, places[r][p]) == d) {
                    places[r][p] = -1;
                }
            }
        }
        failed[d] = true;
        cells[d] = new byte[rows + 1][];
        return true;
    }

    boolean replace(int d) {
        need(d >= 0 && d < n);
        boolean was = failed[d];
        failed[d] = false;
        return was;
    }

    boolean spoil(int d, int offset, int at, int count, long mask) {
        need(d >= 0 && d < n && offset >= 0 && offset < rows);
        need(count >= 1 && count <= 8 && at >= 0 && at <= 70 - count);
        byte[] bytes = new byte[70];
        boolean some = false;
        for (int i = 0; i < count; i++) {
            bytes[at + i] = (byte) (mask >> (8 * i));
            some |= bytes[at + i] != 0;
        }
        need(some);
        if (!on || failed[d]) {
            return false;
        }
        int p = positionAt(d, offset);
        if (p < 0) {
            return false;
        }
        byte[] before = cells[d][offset];
        byte[] spoilt = before.clone();
        for (int i = 0; i < 70; i++) {
            spoilt[i] ^= bytes[i];
        }
        if (valid(spoilt) && !java.util.Arrays.equals(spoilt, writtenLast[d][offset])) {
            return false;
        }
        cells[d][offset] = spoilt;
        if (hurt(places, offset * groups + p / k, -1) > 1) {
            cells[d][offset] = before;
            return false;
        }
        return true;
    }

    /** The position whose place that cell is, or -1. */
    private int positionAt(int d, int r) {
        for (int p = 0; p < k * groups; p++) {
            if (places[r][p] >= 0 && disk(r, places[r][p]) == d) {
                return p;
            }
        }
        return -1;
    }

    int rebuild() {
        needOn();
        for (int r = 0; r < rows; r++) {
            for (int p = 0; p < k * groups; p++) {
                for (int q = k * groups; q < n; q++) {
                    boolean due = places[r][p] < 0 && failed[disk(r, p)];
                    if (due && !failed[disk(r, q)] && free(places, r, q)) {
                        return move(r, p, q);
                    }
                }
            }
        }
        return 0;
    }

    int copyBack() {
        needOn();
        for (int r = 0; r < rows; r++) {
            for (int p = 0; p < k * groups; p++) {
                if (!failed[disk(r, p)] && home(r, p) == null) {
                    return move(r, p, p);
                }
            }
        }
        return 0;
    }

    private int move(int r, int p, int to) {
        int from = places[r][p];
        try {
            put(disk(r, to), r, asRead(r * groups + p / k, p % k), p + 1);
            places[r][p] = to;
            if (from >= 0) {
                put(disk(r, from), r, new byte[64], 0);
            }
            return 1;
        } catch (PowerLost e) {
            return -1;
        }
    }

    int scrub() {
        needOn();
        int s = next;
        next = (s + 1) % (rows * groups);
        byte[] sum = new byte[64];
        boolean lost = false;
        for (int j = 0; j < k; j++) {
            byte[] cell = cell(places, s, j);
            if (cell != null && !valid(cell)) {
                try {
                    putColumn(s, j, reckoned(s, j));
                    return 1;
                } catch (PowerLost e) {
                    return -1;
                }
            }
            lost |= cell == null;
            sum = cell == null ? sum : xor(sum, cell);
        }
        if (!lost && !java.util.Arrays.equals(sum, new byte[64])) {
            holes++;
        }
        return 0;
    }

    int look(int what) {
        need(what >= 0 && what <= 12);
        int[] answers = {on ? 1 : 0, writes, 0, 0, 0, blocks(), holes, rows * groups, next, k, n, 0, tape.size()};
        int[][] now = what >= 2 && what <= 4 ? places() : places;
        for (int r = 0; r < rows && what >= 2 && what <= 4; r++) {
            for (int p = 0; p < k * groups; p++) {
                answers[2] += now[r][p] < 0 ? 1 : 0;
                answers[3] += now[r][p] >= 0 && !valid(home(r, now[r][p])) ? 1 : 0;
            }
            for (int q = k * groups; q < n; q++) {
                answers[4] += free(now, r, q) && !failed[disk(r, q)] ? 1 : 0;
            }
        }
        for (int d = 0; d < n; d++) {
            answers[11] += failed[d] ? 0 : 1;
        }
        return answers[what];
    }

    int place(int r, int p) {
        need(r >= 0 && r < rows && p >= 0 && p < k * groups);
        int q = places()[r][p];
        return q < 0 ? -1 : disk(r, q);
    }
}
