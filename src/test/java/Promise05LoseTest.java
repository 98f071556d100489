/** Promise 5: lose. */
public final class Promise05LoseTest {
    public static void main(String[] args) {
        atTheNthWrite();
        fromNowOn();
        noWriteNoLoss();
        farAway();
        fromTheOpeningOn();
        behindAnOpeningWithoutWrites();
        inPlaceOfWhatWasTold();
        inPlaceWhileOff();
        neverForZero();
        forgottenWhenOff();
        forgottenWhenLost();
        belowZero();
        Due.end();
    }

    private static void atTheNthWrite() {
        Due.sentence("Power will be lost at the n-th write from now on");
        for (int n = 1; n <= 13; n++) {
            Field x = new Field(6, 3, 48);
            x.lose(n);
            for (int call = 0; call < 3 && x.look(Racks.ON) == 1; call++) {
                Due.is("write " + call + ", power lost at " + n, Racks.write(x, 2 * call, 1), n > 4 * call + 4);
            }
            Due.is("on", x.look(Racks.ON), n > 12 ? 1 : 0);
            Due.is("writes done, power lost at " + n, x.look(Racks.WRITES), n - 1);
        }
    }

    private static void fromNowOn() {
        Due.sentence("from now on");
        Field x = new Field(6, 3, 48);
        Racks.write(x, 0, 1);
        x.lose(2);
        Due.is("write", Racks.write(x, 0, 2), false);
        Due.is("writes before do not count", x.look(Racks.WRITES), 5);
    }

    private static void noWriteNoLoss() {
        Due.sentence("Power will be lost at the n-th write");
        Field x = Racks.rebuilt();
        x.lose(1);
        Due.is("rebuild", x.rebuild(), 0);
        Due.is("copyBack", x.copyBack(), 0);
        Due.is("scrub", x.scrub(), 0);
        Due.is("read", x.read(0, 0), 1000);
        Due.is("feed", x.feed(8, 5), 8);
        Due.is("fail", x.fail(1), true);
        Due.is("replace", x.replace(1), true);
        Due.is("spoil", x.spoil(3, 0, 0, 1, 1), false);
        Due.is("spoil", x.spoil(4, 2, 0, 1, 1), true);
        Due.is("it is on", x.look(Racks.ON), 1);
        Due.is("the first write", x.write(0), false);
    }

    private static void farAway() {
        Due.sentence("Power will be lost at the n-th write");
        Field x = new Field(6, 3, 48);
        x.lose(Integer.MAX_VALUE);
        for (int i = 0; i < 50; i++) {
            Due.is("write", Racks.write(x, 0, i), true);
        }
    }

    /** There is a log to be replayed, by two writes. */
    private static void fromTheOpeningOn() {
        Due.sentence("(while it is off: from the opening on)");
        for (int n = 1; n <= 7; n++) {
            Field x = new Field(6, 3, 48);
            Racks.cutWrite(x, 0, 7, 3);
            x.lose(n);
            Due.is("open, power lost at " + n, x.open(), n > 2);
            if (n > 2) {
                Due.is("write, power lost at " + n, Racks.write(x, 2, 1), n > 6);
            }
            Due.is("on", x.look(Racks.ON), n > 6 ? 1 : 0);
            Due.is("writes done, power lost at " + n, x.look(Racks.WRITES), 2 + n - 1);
        }
    }

    private static void behindAnOpeningWithoutWrites() {
        Due.sentence("(while it is off: from the opening on)");
        for (int n = 1; n <= 5; n++) {
            Field x = new Field(6, 3, 48);
            x.off();
            x.lose(n);
            Due.is("open", x.open(), true);
            Due.is("write", Racks.write(x, 0, 1), n > 4);
            Due.is("writes done", x.look(Racks.WRITES), n - 1);
        }
    }

    private static void inPlaceOfWhatWasTold() {
        Due.sentence("in place of what was told");
        int[][] told = {{2, 3}, {3, 2}, {1, 4}, {4, 1}, {1, 1}};
        for (int[] t : told) {
            Field x = new Field(6, 3, 48);
            x.lose(t[0]);
            x.lose(t[1]);
            Due.is("write", Racks.write(x, 0, 1), false);
            Due.is("told " + t[0] + ", then " + t[1], x.look(Racks.WRITES), t[1] - 1);
        }
        Field x = new Field(6, 3, 48);
        x.lose(6);
        Racks.write(x, 0, 1);
        x.lose(3);
        Due.is("told anew with two left", Racks.write(x, 0, 2), false);
        Due.is("three from then on", x.look(Racks.WRITES), 4 + 2);
    }

    private static void inPlaceWhileOff() {
        Due.sentence("in place of what was told");
        Field x = new Field(6, 3, 48);
        Racks.cutWrite(x, 0, 7, 3);
        x.lose(1);
        x.lose(2);
        Due.is("open", x.open(), false);
        Due.is("one write of the opening", x.look(Racks.WRITES), 3);
        x.lose(1);
        x.lose(0);
        Due.is("open", x.open(), true);
    }

    private static void neverForZero() {
        Due.sentence("never for 0.");
        Field x = new Field(6, 3, 48);
        x.lose(0);
        Due.is("write", Racks.write(x, 0, 1), true);
        x.lose(1);
        x.lose(0);
        Due.is("in place of 1", Racks.write(x, 0, 2), true);
        x.lose(6);
        Racks.write(x, 0, 3);
        x.lose(0);
        for (int i = 0; i < 50; i++) {
            Due.is("write", Racks.write(x, 0, i), true);
        }
        Due.is("all writes", x.look(Racks.WRITES), 4 * 53);
        x.off();
        x.lose(1);
        x.lose(0);
        x.open();
        Due.is("told while off", Racks.write(x, 0, 1), true);
    }

    private static void forgottenWhenOff() {
        Due.sentence("It is forgotten when it goes off.");
        for (int n = 1; n <= 5; n++) {
            Field x = new Field(6, 3, 48);
            x.lose(n);
            x.off();
            Due.is("open", x.open(), true);
            Due.is("told " + n + ", then off", Racks.write(x, 0, 1), true);
            Due.is("and once more", Racks.write(x, 0, 2), true);
        }
    }

    private static void forgottenWhenLost() {
        Due.sentence("It is forgotten when it goes off.");
        Field x = new Field(6, 3, 48);
        Racks.cutWrite(x, 0, 2, 3);
        Due.is("not lost in the opening", x.open(), true);
        for (int i = 0; i < 5; i++) {
            Due.is("nor behind it", Racks.write(x, 0, i), true);
        }
        Racks.cutWrite(x, 0, 2, 3);
        x.lose(2);
        Due.is("lost in the opening", x.open(), false);
        Due.is("not lost in the next", x.open(), true);
        Due.is("nor behind it", Racks.write(x, 0, 1), true);
    }

    private static void belowZero() {
        Due.sentence("Throws IllegalArgumentException when n is below 0.");
        Field x = new Field(6, 3, 48);
        for (int n : new int[] {-1, -2, Integer.MIN_VALUE}) {
            Due.argument("lose(" + n + ")", x, () -> x.lose(n));
        }
        x.lose(5);
        Due.argument("with 5 told", x, () -> x.lose(-1));
        Due.is("first four", Racks.write(x, 0, 1), true);
        Due.is("5 stands", Racks.write(x, 0, 2), false);
        Due.argument("while off", x, () -> x.lose(-1));
        x.lose(1);
        Due.argument("while off, with 1 told", x, () -> x.lose(-1));
    }
}
