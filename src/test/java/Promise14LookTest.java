/** Promise 14: look. */
public final class Promise14LookTest {
    public static void main(String[] args) {
        on();
        writes();
        lost();
        spoilt();
        freeSpares();
        sizes();
        holes();
        next();
        live();
        tape();
        whileOff();
        changesNothing();
        another();
        Due.end();
    }

    private static void on() {
        Due.sentence("0 whether it is on (1, 0)");
        Field x = new Field(6, 3, 48);
        Due.is("new", x.look(0), 1);
        x.off();
        Due.is("off", x.look(0), 0);
        x.open();
        Due.is("opened", x.look(0), 1);
        Racks.cutWrite(x, 0, 1, 2);
        Due.is("power lost", x.look(0), 0);
        x.lose(1);
        x.open();
        Due.is("power lost in the opening", x.look(0), 0);
    }

    private static void writes() {
        Due.sentence("1 all writes that were done (those of the beginning not)");
        Field x = new Field(6, 3, 48);
        Due.is("new", x.look(1), 0);
        Racks.write(x, 0, 1);
        Due.is("a block", x.look(1), 4);
        Racks.cutWrite(x, 0, 1, 3);
        Due.is("that at which power is lost is not done", x.look(1), 6);
        x.open();
        Due.is("those of an opening are", x.look(1), 8);
        x.fail(0);
        x.rebuild();
        Due.is("rebuilding", x.look(1), 9);
        x.replace(0);
        x.copyBack();
        Due.is("copying back", x.look(1), 11);
        x.spoil(0, 0, 0, 1, 1);
        x.scrub();
        Due.is("scrubbing", x.look(1), 12);
        Racks.offAndOpen(x);
        Due.is("it outlives going off", x.look(1), 12);
    }

    private static void lost() {
        Due.sentence("2 how many positions are lost");
        Field x = new Field(6, 3, 48);
        Due.is("none", x.look(2), 0);
        x.fail(0);
        Due.is("those of a disk; a spare of it is no such position", x.look(2), 24);
        x.fail(3);
        Due.is("those of two", x.look(2), 48);
        x.rebuild();
        Due.is("in a spare it is not lost", x.look(2), 47);
        x.replace(0);
        Due.is("blank ones are", x.look(2), 47);
        x.copyBack();
        x.copyBack();
        Due.is("copied back they are not", x.look(2), 46);
        Field y = new Field(6, 3, 48);
        y.spoil(0, 0, 0, 1, 1);
        Due.is("a spoilt one is not", y.look(2), 0);
    }

    private static void spoilt() {
        Due.sentence("3 how many cells are spoilt");
        Field x = new Field(7, 3, 48);
        Due.is("none", x.look(3), 0);
        for (int row = 0; row < 48; row++) {
            x.spoil(x.place(row, 2), row, 0, 1, 1);
            x.spoil(x.place(row, 3), row, 0, 1, 1);
            Due.is("two a row", x.look(3), 2 * row + 2);
        }
        x.spoil(x.place(0, 2), 0, 0, 1, 1);
        Due.is("one is right again", x.look(3), 95);
        Field y = new Field(6, 3, 48);
        y.fail(0);
        Due.is("lost ones are not", y.look(3), 0);
        y.replace(0);
        Due.is("blank ones are not", y.look(3), 0);
    }

    private static void freeSpares() {
        Due.sentence("4 free spares on live disks");
        Field x = new Field(6, 3, 48);
        Due.is("all", x.look(4), 48 * 3);
        x.fail(0);
        Due.is("not those of a failed disk", x.look(4), 48 * 3 - 24);
        x.rebuild();
        Due.is("not one that is a place", x.look(4), 48 * 3 - 25);
        x.replace(0);
        Due.is("blank ones are", x.look(4), 48 * 3 - 1);
        x.copyBack();
        Due.is("one that was a place is", x.look(4), 48 * 3);
        // With one spare a row there is none left when each is a place.
        Field y = new Field(7, 3, 48);
        y.fail(0);
        Due.is("6 rows had their spare on disk 0", y.look(4), 42);
        Due.is("all rebuilt", Racks.all(y::rebuild), 42);
        Due.is("none", y.look(4), 0);
    }

    private static void sizes() {
        Due.sentence("5 blocks");
        int[][] all = {{6, 3, 48}, {6, 5, 49}, {7, 3, 48}, {9, 8, 63}, {16, 3, 64}, {16, 8, 64}};
        for (int[] s : all) {
            Due.is("blocks", new Field(s[0], s[1], s[2]).look(5), s[2] * ((s[0] - 1) / s[1]) * (s[1] - 1));
        }
        Due.sentence("7 stripes");
        for (int[] s : all) {
            Due.is("stripes", new Field(s[0], s[1], s[2]).look(7), s[2] * ((s[0] - 1) / s[1]));
        }
        Due.sentence("9 WIDTH");
        for (int[] s : all) {
            Due.is("width", new Field(s[0], s[1], s[2]).look(9), s[1]);
        }
        Due.sentence("10 disks");
        for (int[] s : all) {
            Field x = new Field(s[0], s[1], s[2]);
            Due.is("disks", x.look(10), s[0]);
            x.fail(0);
            Due.is("failed ones too", x.look(10), s[0]);
            x.off();
            Due.is("sizes while off", x.look(10) + 100 * x.look(9), s[0] + 100 * s[1]);
        }
    }

    private static void holes() {
        Due.sentence("6 HOLES");
        Field x = Racks.six();
        Due.is("none", x.look(6), 0);
        x.fail(0);
        for (int s = 0; s < 48; s++) {
            x.scrub();
        }
        Due.is("stripes with a lost cell are none", x.look(6), 0);
        Racks.offAndOpen(x);
        Due.is("opened", x.look(6), 0);
    }

    private static void next() {
        Due.sentence("8 NEXT");
        Field x = new Field(6, 3, 48);
        Due.is("at first", x.look(8), 0);
        for (int s = 1; s <= 49; s++) {
            x.scrub();
            Due.is("behind a step", x.look(8), s % 48);
        }
        Racks.offAndOpen(x);
        Due.is("opened", x.look(8), 0);
    }

    private static void live() {
        Due.sentence("11 live ones");
        Field x = new Field(6, 3, 48);
        Due.is("all", x.look(11), 6);
        x.fail(0);
        Due.is("one failed", x.look(11), 5);
        x.fail(1);
        Due.is("one that was refused is live", x.look(11), 5);
        x.fail(3);
        Due.is("two failed", x.look(11), 4);
        x.off();
        Due.is("while off", x.look(11), 4);
        x.replace(0);
        Due.is("replaced", x.look(11), 5);
    }

    private static void tape() {
        Due.sentence("12 the bytes of the tape.");
        Field x = new Field(6, 3, 48);
        Due.is("empty", x.look(12), 0);
        for (int i = 1; i <= 8; i++) {
            x.feed(8, 0);
            Due.is("fed", x.look(12), 8 * i);
        }
        x.off();
        Due.is("full, while off", x.look(12), 64);
        x.open();
        x.write(0);
        Due.is("used up", x.look(12), 0);
    }

    private static void whileOff() {
        Due.sentence("(While it is off, 2 to 4 are by the places that opening would find.)");
        Field x = Racks.rebuilt();
        x.spoil(3, 0, 0, 1, 1);
        x.spoil(1, 3, 0, 1, 1);
        areDue("on: a spare and a home are spoilt", x, 0, 2, 48 * 3 - 24 - 24);
        x.off();
        areDue("off: the spare is not found, so it is free", x, 1, 1, 48 * 3 - 24 - 24 + 1);
        x.replace(0);
        areDue("blank cells are no places, and spares are free", x, 1, 1, 48 * 3 - 24 + 1);
        Due.is("fail", x.fail(4), true);
        areDue("it had 24 homes and 24 spares, of which 8 were places", x, 1 + 24 + 8, 1, 48 * 3 - 24 + 1 - 16);
        x.open();
        areDue("opened", x, 1 + 24 + 8, 1, 48 * 3 - 24 + 1 - 16);

        Field stale = Racks.withAStaleSpare();
        areDue("home is found, the spare is free", stale, 0, 0, 48 * 3 - 23);
        stale.fail(0);
        areDue("home failed, the spare is found", stale, 0, 0, 48 * 3 - 24 - 24);
    }

    /** Each is asked by itself, so that none is right by what another one found. */
    private static void areDue(String when, Field x, int lost, int spoilt, int free) {
        Due.is(when + ": lost", x.twin().look(2), lost);
        Due.is(when + ": spoilt", x.twin().look(3), spoilt);
        Due.is(when + ": free", x.twin().look(4), free);
    }

    private static void changesNothing() {
        Due.sentence("0 whether it is on (1, 0), 1 all writes that were done");
        Field x = Racks.rebuilt();
        x.feed(3, 5);
        x.lose(5);
        for (int round = 0; round < 2; round++) {
            String before = Racks.seen(x);
            for (int what = 0; what <= 12; what++) {
                x.look(what);
            }
            Due.is("all is as it was", Racks.seen(x), before);
            if (round == 0) {
                x.off();
            }
        }
    }

    private static void another() {
        Due.sentence("Throws IllegalArgumentException for another what.");
        Field x = new Field(6, 3, 48);
        x.feed(3, 5);
        for (int round = 0; round < 2; round++) {
            for (int what : new int[] {-1, 13, 14}) {
                Due.argument("look(" + what + ")", x, () -> x.look(what));
            }
            for (int what : Racks.FAR) {
                Due.argument("look(" + what + ")", x, () -> x.look(what));
            }
            if (round == 0) {
                x.off();
            }
        }
        Due.is("0", x.look(0), 0);
        Due.is("12", x.look(12), 3);
    }
}
