import java.util.ArrayList;
import java.util.List;
import java.util.function.Function;

/**
 * A StripeField whose calls are counted, since the document promises nothing behind the 512th, and
 * remembered, so that a twin can be brought to where it is and be asked in its place.
 */
final class Field {
    static final int CALLS = 512;

    final int disks;
    final int width;
    final int rows;
    final int groups;
    final int stripes;
    final int blocks;
    /** How many positions of a row belong to stripes, and how many are spares. */
    final int positions;
    final int spares;
    private final StripeField field;
    private final List<Function<StripeField, ?>> calls = new ArrayList<>();

    /** With sizes as the document allows them. */
    Field(int disks, int width, int rows) {
        this.disks = disks;
        this.width = width;
        this.rows = rows;
        groups = (disks - 1) / width;
        stripes = rows * groups;
        blocks = stripes * (width - 1);
        positions = groups * width;
        spares = disks - positions;
        field = new StripeField(disks, width, rows);
    }

    /** A new one of the same sizes. */
    Field fresh() {
        return new Field(disks, width, rows);
    }

    /** Another one that has had the same calls. */
    Field twin() {
        Field twin = fresh();
        for (Function<StripeField, ?> call : calls) {
            Due.thrown(() -> twin.ask(call));
        }
        return twin;
    }

    int callsLeft() {
        return CALLS - calls.size();
    }

    private <A> A ask(Function<StripeField, A> call) {
        if (callsLeft() == 0) {
            throw new AssertionError("the test calls one object more than 512 times");
        }
        calls.add(call);
        return call.apply(field);
    }

    int feed(int n, long v) {
        return ask(x -> x.feed(n, v));
    }

    boolean write(int block) {
        return ask(x -> x.write(block));
    }

    long read(int block, int k) {
        return ask(x -> x.read(block, k));
    }

    void lose(int n) {
        ask(x -> {
            x.lose(n);
            return 0;
        });
    }

    void off() {
        ask(x -> {
            x.off();
            return 0;
        });
    }

    boolean open() {
        return ask(StripeField::open);
    }

    boolean fail(int disk) {
        return ask(x -> x.fail(disk));
    }

    boolean replace(int disk) {
        return ask(x -> x.replace(disk));
    }

    boolean spoil(int disk, int offset, int at, int n, long mask) {
        return ask(x -> x.spoil(disk, offset, at, n, mask));
    }

    int rebuild() {
        return ask(StripeField::rebuild);
    }

    int copyBack() {
        return ask(StripeField::copyBack);
    }

    int scrub() {
        return ask(StripeField::scrub);
    }

    int look(int what) {
        return ask(x -> x.look(what));
    }

    int place(int row, int position) {
        return ask(x -> x.place(row, position));
    }
}
