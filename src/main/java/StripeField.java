import java.util.Arrays;

/**
 * A field of blocks on a rack of disks that fail, are replaced, and spoil cells silently, with a
 * power that goes at any write. What every call promises stands in the document, by number.
 */
public final class StripeField {
    /** A block is 64 bytes, held as words of eight bytes, lowest first. */
    private static final int BLOCK_WORDS = 8;
    private static final int BLOCK_BYTES = 64;
    /** The word behind the block holds the tag (bytes 64, 65) and the check (bytes 66 .. 69). */
    private static final int CELL_WORDS = 9;
    private static final int CELL_BYTES = 70;
    private static final int CHECKED_BYTES = 66;
    private static final int CHECK_SHIFT = 16;
    private static final long TAG_MASK = 0xFFFFL;
    private static final long CHECK_MASK = 0xFFFFFFFFL;
    /** 2197175160, as the 32 bits of an int. */
    private static final int CHECK_POLYNOMIAL = 0x82F63B78;
    /** A log's tag is 1 + 8 * stripe + column. */
    private static final int LOG_COLUMNS = 8;
    /** The place of a position that has none, and the holder of a cell that is no place. */
    private static final int NONE = -1;

    private final Layout layout;
    private final Rack rack;
    private final Places places;
    private final Power power;
    private final long[] tape;
    private int tapeBytes;
    private int next;
    private int holes;

    /** Rows that calls use again, so that no call makes any: the block to be written, and a sum of others. */
    private final long[] fresh;
    private final long[] sum;
    private final long[] zeros;

    public StripeField(int disks, int width, int rows) {
        layout = new Layout(disks, width, rows);
        rack = new Rack(layout);
        places = new Places(layout, rack);
        power = new Power();
        tape = new long[BLOCK_WORDS];
        fresh = new long[BLOCK_WORDS];
        sum = new long[BLOCK_WORDS];
        zeros = new long[BLOCK_WORDS];
    }

    public int feed(int n, long v) throws IllegalArgumentException, IllegalStateException {
        if (n < 1 || n > 8) {
            throw new IllegalArgumentException("n is not 1 .. 8");
        }
        if (tapeBytes + n > BLOCK_BYTES) {
            throw new IllegalStateException("the tape would have more than 64 bytes");
        }
        xorBytes(tape, 0, tapeBytes, n, v);
        tapeBytes += n;
        return tapeBytes;
    }

    public boolean write(int block) throws IllegalArgumentException, IllegalStateException {
        if (block < 0 || block >= layout.blocks) {
            throw new IllegalArgumentException("there is no such block");
        }
        if (!power.on) {
            throw new IllegalStateException("it is off");
        }
        takeTape();
        return writeFresh(layout.stripeOfBlock(block), layout.columnOfBlock(block));
    }

    public long read(int block, int k) throws IllegalArgumentException, IllegalStateException {
        if (block < 0 || block >= layout.blocks) {
            throw new IllegalArgumentException("there is no such block");
        }
        if (k < 0 || k >= BLOCK_WORDS) {
            throw new IllegalArgumentException("k is not 0 .. 7");
        }
        if (!power.on) {
            throw new IllegalStateException("it is off");
        }
        Arrays.fill(sum, 0L);
        addRead(layout.stripeOfBlock(block), layout.columnOfBlock(block));
        return sum[k];
    }

    public void lose(int n) throws IllegalArgumentException {
        if (n < 0) {
            throw new IllegalArgumentException("n is below 0");
        }
        power.writesLeft = n;
    }

    public void off() throws IllegalStateException {
        if (!power.on) {
            throw new IllegalStateException("it is off");
        }
        power.cut();
    }

    public boolean open() throws IllegalStateException {
        if (power.on) {
            throw new IllegalStateException("it is on");
        }
        power.on = true;
        next = 0;
        places.find();
        return replayLogs() && clearFreeSpares();
    }

    public boolean fail(int disk) throws IllegalArgumentException {
        if (disk < 0 || disk >= layout.disks) {
            throw new IllegalArgumentException("there is no such disk");
        }
        if (!rack.live[disk]) {
            return false;
        }
        findPlacesIfOff();
        if (wouldBreakWithout(disk)) {
            return false;
        }
        rack.removeDisk(disk);
        places.dropDisk(disk);
        return true;
    }

    public boolean replace(int disk) throws IllegalArgumentException {
        if (disk < 0 || disk >= layout.disks) {
            throw new IllegalArgumentException("there is no such disk");
        }
        if (rack.live[disk]) {
            return false;
        }
        rack.live[disk] = true;
        return true;
    }

    public boolean spoil(int disk, int offset, int at, int n, long mask) throws IllegalArgumentException {
        if (disk < 0 || disk >= layout.disks) {
            throw new IllegalArgumentException("there is no such disk");
        }
        if (offset < 0 || offset >= layout.rows) {
            throw new IllegalArgumentException("offset is not 0 .. ROWS - 1");
        }
        if (n < 1 || n > 8) {
            throw new IllegalArgumentException("n is not 1 .. 8");
        }
        if (at < 0 || at > CELL_BYTES - n) {
            throw new IllegalArgumentException("at is not 0 .. 70 - n");
        }
        if (lowestBytes(n, mask) == 0L) {
            throw new IllegalArgumentException("the bytes of mask are all 0");
        }
        int cell = layout.cell(disk, offset);
        if (!power.on || !rack.live[disk] || places.holder[cell] == NONE) {
            return false;
        }
        return spoilPlace(cell, at, n, mask);
    }

    public int rebuild() throws IllegalStateException {
        if (!power.on) {
            throw new IllegalStateException("it is off");
        }
        for (int row = 0; row < layout.rows; row++) {
            int spare = places.firstFreeSpare(row);
            int slot = spare == NONE ? NONE : places.firstToRebuild(row);
            if (slot != NONE) {
                return moveTo(slot, spare) ? 1 : -1;
            }
        }
        return 0;
    }

    public int copyBack() throws IllegalStateException {
        if (!power.on) {
            throw new IllegalStateException("it is off");
        }
        int slot = places.firstToCopyBack();
        if (slot == NONE) {
            return 0;
        }
        int spare = places.place[slot];
        if (!moveTo(slot, layout.home[slot])) {
            return -1;
        }
        return spare == NONE || putCell(spare, zeros, 0) ? 1 : -1;
    }

    public int scrub() throws IllegalStateException {
        if (!power.on) {
            throw new IllegalStateException("it is off");
        }
        int stripe = next;
        next = stripe + 1 < layout.stripes ? stripe + 1 : 0;
        int column = spoiltColumn(stripe);
        if (column != NONE) {
            Arrays.fill(sum, 0L);
            addOthers(stripe, column);
            return putColumn(stripe, column, sum) ? 1 : -1;
        }
        if (isHole(stripe)) {
            holes++;
        }
        return 0;
    }

    public int look(int what) throws IllegalArgumentException {
        if (what >= 2 && what <= 4) {
            findPlacesIfOff();
        }
        switch (what) {
            case 0: return power.on ? 1 : 0;
            case 1: return power.writesDone;
            case 2: return places.countLost();
            case 3: return places.countSpoilt();
            case 4: return places.countFreeSpares();
            case 5: return layout.blocks;
            case 6: return holes;
            case 7: return layout.stripes;
            case 8: return next;
            case 9: return layout.width;
            case 10: return layout.disks;
            case 11: return rack.countLive();
            case 12: return tapeBytes;
            default: throw new IllegalArgumentException("what is not 0 .. 12");
        }
    }

    public int place(int row, int position) throws IllegalArgumentException {
        if (row < 0 || row >= layout.rows) {
            throw new IllegalArgumentException("there is no such row");
        }
        if (position < 0 || position >= layout.positions) {
            throw new IllegalArgumentException("the position is none of a stripe");
        }
        findPlacesIfOff();
        int cell = places.place[layout.slot(row, position)];
        return cell == NONE ? -1 : layout.diskOf(cell);
    }

    /** Places are known while it is on alone; while it is off, they are those that opening would find. */
    private void findPlacesIfOff() {
        if (!power.on) {
            places.find();
        }
    }

    private void takeTape() {
        System.arraycopy(tape, 0, fresh, 0, BLOCK_WORDS);
        Arrays.fill(tape, 0L);
        tapeBytes = 0;
    }

    private boolean writeFresh(int stripe, int column) {
        Arrays.fill(sum, 0L);
        if (placeOf(stripe, layout.parity) == NONE) {
            return putColumn(stripe, column, fresh);
        }
        for (int j = 0; j < layout.parity; j++) {
            if (j != column) {
                addRead(stripe, j);
            }
        }
        if (placeOf(stripe, column) == NONE) {
            addFresh();
            return putColumn(stripe, layout.parity, sum);
        }
        return writeLogged(stripe, column);
    }

    /** The log bears the sum of the other data while the block and its parity may not fit together. */
    private boolean writeLogged(int stripe, int column) {
        int log = layout.logOf(layout.diskOf(placeOf(stripe, layout.parity)));
        if (!putCell(log, sum, 1 + LOG_COLUMNS * stripe + column)) {
            return false;
        }
        if (!putColumn(stripe, column, fresh)) {
            return false;
        }
        addFresh();
        return putColumn(stripe, layout.parity, sum) && putCell(log, zeros, 0);
    }

    private void addFresh() {
        for (int i = 0; i < BLOCK_WORDS; i++) {
            sum[i] ^= fresh[i];
        }
    }

    /** Adds a column to the sum, as it is read. */
    private void addRead(int stripe, int column) {
        int cell = placeOf(stripe, column);
        if (rack.isValid(cell)) {
            rack.addTo(sum, cell);
        } else {
            addOthers(stripe, column);
        }
    }

    /** Adds all other cells of the stripe to the sum: so the column is reckoned. */
    private void addOthers(int stripe, int column) {
        for (int j = 0; j < layout.width; j++) {
            int cell = placeOf(stripe, j);
            if (j != column && cell != NONE) {
                rack.addTo(sum, cell);
            }
        }
    }

    private int placeOf(int stripe, int column) {
        return places.place[layout.slotOf(stripe, column)];
    }

    /** False, with nothing written, if power is lost at this write. */
    private boolean putCell(int cell, long[] block, int tag) {
        if (!power.spendWrite()) {
            return false;
        }
        rack.store(cell, block, tag);
        return true;
    }

    private boolean putColumn(int stripe, int column, long[] block) {
        int slot = layout.slotOf(stripe, column);
        return putCell(places.place[slot], block, layout.tagOf(slot));
    }

    /** Writes a position's block to another cell, which is its place from then on. */
    private boolean moveTo(int slot, int cell) {
        Arrays.fill(sum, 0L);
        addRead(layout.stripeOfSlot(slot), layout.columnOfSlot(slot));
        if (!putCell(cell, sum, layout.tagOf(slot))) {
            return false;
        }
        places.move(slot, cell);
        return true;
    }

    private boolean replayLogs() {
        for (int disk = 0; disk < layout.disks; disk++) {
            int log = layout.logOf(disk);
            int tag = rack.isValid(log) ? rack.tag(log) : 0;
            if (tag > 0 && !replayLog(disk, log, tag - 1)) {
                return false;
            }
        }
        return true;
    }

    private boolean replayLog(int disk, int log, int logged) {
        int stripe = logged / LOG_COLUMNS;
        int column = logged % LOG_COLUMNS;
        if (canReplay(disk, stripe, column)) {
            Arrays.fill(sum, 0L);
            rack.addTo(sum, log);
            rack.addTo(sum, placeOf(stripe, column));
            if (!putColumn(stripe, layout.parity, sum)) {
                return false;
            }
        }
        return putCell(log, zeros, 0);
    }

    private boolean canReplay(int disk, int stripe, int column) {
        if (stripe >= layout.stripes || column >= layout.parity) {
            return false;
        }
        int parity = placeOf(stripe, layout.parity);
        return parity != NONE && layout.diskOf(parity) == disk && rack.isValid(placeOf(stripe, column));
    }

    private boolean clearFreeSpares() {
        for (int row = 0; row < layout.rows; row++) {
            for (int position = layout.positions; position < layout.disks; position++) {
                int cell = layout.home[layout.slot(row, position)];
                boolean stale = places.holder[cell] == NONE && rack.isValid(cell) && rack.tag(cell) > 0;
                if (stale && !putCell(cell, zeros, 0)) {
                    return false;
                }
            }
        }
        return true;
    }

    private boolean wouldBreakWithout(int disk) {
        for (int stripe = 0; stripe < layout.stripes; stripe++) {
            int hurt = 0;
            for (int j = 0; j < layout.width; j++) {
                int cell = placeOf(stripe, j);
                if (!rack.isValid(cell) || layout.diskOf(cell) == disk) {
                    hurt++;
                }
            }
            if (hurt > 1) {
                return true;
            }
        }
        return false;
    }

    private boolean spoilPlace(int cell, int at, int n, long mask) {
        rack.damage(cell, at, n, mask);
        boolean allowed = rack.isValid(cell) ? rack.isAsWritten(cell) : othersAreValid(places.holder[cell]);
        if (!allowed) {
            // The same bytes xored once more leave the cell as it was.
            rack.damage(cell, at, n, mask);
        }
        return allowed;
    }

    private boolean othersAreValid(int slot) {
        int stripe = layout.stripeOfSlot(slot);
        int column = layout.columnOfSlot(slot);
        for (int j = 0; j < layout.width; j++) {
            if (j != column && !rack.isValid(placeOf(stripe, j))) {
                return false;
            }
        }
        return true;
    }

    private int spoiltColumn(int stripe) {
        for (int j = 0; j < layout.width; j++) {
            int cell = placeOf(stripe, j);
            if (cell != NONE && !rack.isValid(cell)) {
                return j;
            }
        }
        return NONE;
    }

    private boolean isHole(int stripe) {
        Arrays.fill(sum, 0L);
        for (int j = 0; j < layout.width; j++) {
            int cell = placeOf(stripe, j);
            if (cell == NONE) {
                return false;
            }
            rack.addTo(sum, cell);
        }
        for (int i = 0; i < BLOCK_WORDS; i++) {
            if (sum[i] != 0L) {
                return true;
            }
        }
        return false;
    }

    /** Xors the n lowest bytes of some to the bytes from place at on, counted from the word first on. */
    private static void xorBytes(long[] words, int first, int at, int n, long some) {
        for (int i = 0; i < n; i++) {
            long one = (some >>> (8 * i)) & 0xFFL;
            words[first + ((at + i) >>> 3)] ^= one << (8 * ((at + i) & 7));
        }
    }

    private static long lowestBytes(int n, long v) {
        return n >= 8 ? v : v & ((1L << (8 * n)) - 1L);
    }

    /**
     * Where everything lies, which never changes. A cell's number is disk * (ROWS + 1) + offset; a
     * slot is row * disks + position.
     */
    private static final class Layout {
        final int disks;
        final int width;
        final int rows;
        final int groups;
        final int stripes;
        final int blocks;
        /** How many positions of a row belong to stripes; those behind them are spares. */
        final int positions;
        /** The column that is parity; those before it are data. */
        final int parity;
        final int cells;
        /** The cell of each slot. */
        final int[] home;

        Layout(int disks, int width, int rows) {
            this.disks = disks >= 6 && disks <= 16 ? disks : 8;
            this.width = width >= 3 && width <= 8 && width < this.disks ? width : 3;
            this.rows = rows >= 48 && rows <= 64 ? rows : 48;
            groups = (this.disks - 1) / this.width;
            stripes = this.rows * groups;
            parity = this.width - 1;
            blocks = stripes * parity;
            positions = this.width * groups;
            cells = this.disks * (this.rows + 1);
            home = homes(this.disks, this.rows);
        }

        private static int[] homes(int disks, int rows) {
            int[] steps = stepsOf(disks);
            int[] homes = new int[rows * disks];
            for (int row = 0; row < rows; row++) {
                int step = steps[row % steps.length];
                for (int position = 0; position < disks; position++) {
                    int disk = (row + position * step) % disks;
                    homes[row * disks + position] = disk * (rows + 1) + row;
                }
            }
            return homes;
        }

        /** At least 1 is among them, so the row is never empty. */
        private static int[] stepsOf(int disks) {
            int[] steps = new int[disks];
            int count = 0;
            for (int step = 1; step < disks; step++) {
                if (haveNoDivisorInCommon(step, disks)) {
                    steps[count] = step;
                    count++;
                }
            }
            return Arrays.copyOf(steps, count);
        }

        private static boolean haveNoDivisorInCommon(int a, int b) {
            for (int divisor = 2; divisor <= a; divisor++) {
                if (a % divisor == 0 && b % divisor == 0) {
                    return false;
                }
            }
            return true;
        }

        int cell(int disk, int offset) {
            return disk * (rows + 1) + offset;
        }

        int diskOf(int cell) {
            return cell / (rows + 1);
        }

        int logOf(int disk) {
            return cell(disk, rows);
        }

        int slot(int row, int position) {
            return row * disks + position;
        }

        int slotOf(int stripe, int column) {
            return slot(stripe / groups, width * (stripe % groups) + column);
        }

        int stripeOfSlot(int slot) {
            return slot / disks * groups + slot % disks / width;
        }

        int columnOfSlot(int slot) {
            return slot % disks % width;
        }

        int tagOf(int slot) {
            return slot % disks + 1;
        }

        int stripeOfBlock(int block) {
            return block / parity;
        }

        int columnOfBlock(int block) {
            return block % parity;
        }
    }

    /** Whether it is on, and when power will be lost. */
    private static final class Power {
        boolean on = true;
        /** Power is lost at the write with this number, from now on; never for 0. */
        int writesLeft;
        int writesDone;

        void cut() {
            on = false;
            writesLeft = 0;
        }

        /** False if power is lost at this write. */
        boolean spendWrite() {
            if (writesLeft == 1) {
                cut();
                return false;
            }
            if (writesLeft > 1) {
                writesLeft--;
            }
            writesDone++;
            return true;
        }
    }

    /** The disks and the bytes of their cells. */
    private static final class Rack {
        final boolean[] live;
        private final Layout layout;
        private final long[] words;
        /** What spoiling has xored to a cell since it was written: all 0 while it has the bytes written last. */
        private final long[] drift;
        private final boolean[] written;
        /** Kept with every change, for a check costs more than all else. */
        private final boolean[] valid;

        Rack(Layout layout) {
            this.layout = layout;
            live = new boolean[layout.disks];
            words = new long[layout.cells * CELL_WORDS];
            drift = new long[layout.cells * CELL_WORDS];
            written = new boolean[layout.cells];
            valid = new boolean[layout.cells];
            for (int disk = 0; disk < layout.disks; disk++) {
                live[disk] = true;
            }
            writeAll();
        }

        /** All blocks are 0s, so cells with one tag are the same, and a check is reckoned once a tag. */
        private void writeAll() {
            long[] zeros = new long[BLOCK_WORDS];
            for (int position = 0; position < layout.disks; position++) {
                int first = layout.home[position];
                store(first, zeros, position < layout.positions ? position + 1 : 0);
                for (int row = 1; row < layout.rows; row++) {
                    storeLike(first, layout.home[layout.slot(row, position)]);
                }
            }
            store(layout.logOf(0), zeros, 0);
            for (int disk = 1; disk < layout.disks; disk++) {
                storeLike(layout.logOf(0), layout.logOf(disk));
            }
        }

        private void storeLike(int first, int cell) {
            System.arraycopy(words, first * CELL_WORDS, words, cell * CELL_WORDS, CELL_WORDS);
            written[cell] = true;
            valid[cell] = true;
        }

        void store(int cell, long[] block, int tag) {
            if (cell == NONE) {
                return;
            }
            int first = cell * CELL_WORDS;
            for (int i = 0; i < BLOCK_WORDS; i++) {
                words[first + i] = block[i];
                drift[first + i] = 0L;
            }
            int last = first + BLOCK_WORDS;
            drift[last] = 0L;
            words[last] = tag;
            words[last] |= (checkOf(cell) & CHECK_MASK) << CHECK_SHIFT;
            written[cell] = true;
            valid[cell] = true;
        }

        private int checkOf(int cell) {
            int v = -1;
            for (int i = 0; i < CHECKED_BYTES; i++) {
                v ^= (int) (words[cell * CELL_WORDS + (i >>> 3)] >>> (8 * (i & 7))) & 0xFF;
                for (int bit = 0; bit < 8; bit++) {
                    v = (v & 1) != 0 ? (v >>> 1) ^ CHECK_POLYNOMIAL : v >>> 1;
                }
            }
            return ~v;
        }

        /** Xors bytes to a written cell, behind its check's back. */
        void damage(int cell, int at, int n, long mask) {
            xorBytes(words, cell * CELL_WORDS, at, n, mask);
            xorBytes(drift, cell * CELL_WORDS, at, n, mask);
            long check = words[cell * CELL_WORDS + BLOCK_WORDS] >>> CHECK_SHIFT;
            valid[cell] = check == (checkOf(cell) & CHECK_MASK);
        }

        boolean isAsWritten(int cell) {
            for (int i = 0; i < CELL_WORDS; i++) {
                if (drift[cell * CELL_WORDS + i] != 0L) {
                    return false;
                }
            }
            return true;
        }

        /** A disk that has failed has no cells, and all are blank when it is replaced. */
        void removeDisk(int disk) {
            live[disk] = false;
            int first = layout.cell(disk, 0);
            for (int cell = first; cell <= layout.logOf(disk); cell++) {
                written[cell] = false;
                valid[cell] = false;
            }
        }

        boolean isWritten(int cell) {
            return written[cell];
        }

        boolean isValid(int cell) {
            return cell != NONE && valid[cell];
        }

        int tag(int cell) {
            return (int) (words[cell * CELL_WORDS + BLOCK_WORDS] & TAG_MASK);
        }

        void addTo(long[] sum, int cell) {
            for (int i = 0; i < BLOCK_WORDS; i++) {
                sum[i] ^= words[cell * CELL_WORDS + i];
            }
        }

        int countLive() {
            int count = 0;
            for (int disk = 0; disk < layout.disks; disk++) {
                if (live[disk]) {
                    count++;
                }
            }
            return count;
        }
    }

    /** Which cell has each position. */
    private static final class Places {
        /** The cell that is the place of each slot, or NONE. */
        final int[] place;
        /** The slot whose place each cell is, or NONE. */
        final int[] holder;
        private final Layout layout;
        private final Rack rack;

        Places(Layout layout, Rack rack) {
            this.layout = layout;
            this.rack = rack;
            place = new int[layout.rows * layout.disks];
            holder = new int[layout.cells];
            find();
        }

        void find() {
            Arrays.fill(place, NONE);
            Arrays.fill(holder, NONE);
            for (int row = 0; row < layout.rows; row++) {
                for (int position = 0; position < layout.positions; position++) {
                    int slot = layout.slot(row, position);
                    place[slot] = found(row, slot);
                    if (place[slot] != NONE) {
                        holder[place[slot]] = slot;
                    }
                }
            }
        }

        private int found(int row, int slot) {
            if (rack.isWritten(layout.home[slot])) {
                return layout.home[slot];
            }
            for (int position = layout.positions; position < layout.disks; position++) {
                int cell = layout.home[layout.slot(row, position)];
                if (rack.isValid(cell) && rack.tag(cell) == layout.tagOf(slot)) {
                    return cell;
                }
            }
            return NONE;
        }

        void move(int slot, int cell) {
            if (place[slot] != NONE) {
                holder[place[slot]] = NONE;
            }
            place[slot] = cell;
            holder[cell] = slot;
        }

        void dropDisk(int disk) {
            for (int offset = 0; offset < layout.rows; offset++) {
                int cell = layout.cell(disk, offset);
                if (holder[cell] != NONE) {
                    place[holder[cell]] = NONE;
                    holder[cell] = NONE;
                }
            }
        }

        private boolean isFree(int spare) {
            return holder[spare] == NONE && rack.live[layout.diskOf(spare)];
        }

        int firstFreeSpare(int row) {
            for (int position = layout.positions; position < layout.disks; position++) {
                int cell = layout.home[layout.slot(row, position)];
                if (isFree(cell)) {
                    return cell;
                }
            }
            return NONE;
        }

        int firstToRebuild(int row) {
            for (int position = 0; position < layout.positions; position++) {
                int slot = layout.slot(row, position);
                if (place[slot] == NONE && !rack.live[layout.diskOf(layout.home[slot])]) {
                    return slot;
                }
            }
            return NONE;
        }

        int firstToCopyBack() {
            for (int row = 0; row < layout.rows; row++) {
                for (int position = 0; position < layout.positions; position++) {
                    int slot = layout.slot(row, position);
                    int home = layout.home[slot];
                    if (rack.live[layout.diskOf(home)] && !rack.isWritten(home)) {
                        return slot;
                    }
                }
            }
            return NONE;
        }

        int countLost() {
            return layout.rows * layout.positions - countPlaces(false);
        }

        int countSpoilt() {
            return countPlaces(false) - countPlaces(true);
        }

        private int countPlaces(boolean onlyValid) {
            int count = 0;
            for (int cell = 0; cell < layout.cells; cell++) {
                if (holder[cell] != NONE && (!onlyValid || rack.isValid(cell))) {
                    count++;
                }
            }
            return count;
        }

        int countFreeSpares() {
            int count = 0;
            for (int row = 0; row < layout.rows; row++) {
                for (int position = layout.positions; position < layout.disks; position++) {
                    if (isFree(layout.home[layout.slot(row, position)])) {
                        count++;
                    }
                }
            }
            return count;
        }
    }
}
