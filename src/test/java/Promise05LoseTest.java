/** Promise 5: lose. */
public final class Promise05LoseTest {
    public static void main(String[] args) {
        overManyCalls();
        inPlaceOfWhatWasTold();
        whileOff();
        forgotten();
        wrongInputs();
        Due.end();
    }

    private static void overManyCalls() {
        StripeField x = new StripeField(6, 3, 48);
        x.lose(10);
        Due.is("writes 1 to 4", Racks.write(x, 0, 1), true);
        Due.is("writes 5 to 8", Racks.write(x, 2, 2), true);
        Due.is("write 10 is lost", Racks.write(x, 4, 3), false);
        Due.is("writes done", x.look(1), 9);
        Due.is("off", x.look(0), 0);
        Due.is("open", x.open(), true);
        Due.is("nothing is left of it", Racks.write(x, 4, 3), true);
    }

    private static void inPlaceOfWhatWasTold() {
        StripeField x = new StripeField(6, 3, 48);
        x.lose(2);
        x.lose(6);
        Due.is("2 is gone", Racks.write(x, 0, 1), true);
        x.lose(0);
        Due.is("never", Racks.write(x, 0, 2), true);
        x.lose(Integer.MAX_VALUE);
        Due.is("far away", Racks.write(x, 0, 3), true);
        x.lose(1);
        Due.is("reading is no write", x.read(0, 0), 3);
        Due.is("the next one", Racks.write(x, 0, 4), false);
        Due.is("writes done", x.look(1), 12);
    }

    private static void whileOff() {
        StripeField x = new StripeField(6, 3, 48);
        Racks.cutWrite(x, 0, 7, 3);
        x.lose(2);
        Due.is("power lost in opening", x.open(), false);
        Due.is("writes done", x.look(1), 3);
        x.lose(1);
        x.lose(2);
        Due.is("opening writes parity and log again, the log is lost", x.open(), false);
        x.lose(3);
        Due.is("opening has two writes", x.open(), true);
        Due.is("the third one is lost", Racks.write(x, 2, 1), false);
        Due.is("nothing of it is done", x.look(1), 6);
    }

    private static void forgotten() {
        StripeField x = new StripeField(6, 3, 48);
        x.lose(1);
        x.off();
        Due.is("open", x.open(), true);
        Due.is("forgotten when it went off", Racks.write(x, 0, 1), true);
        Racks.cutWrite(x, 0, 2, 2);
        Due.is("not told anew, it is not lost in opening", x.open(), true);
    }

    private static void wrongInputs() {
        StripeField x = new StripeField(6, 3, 48);
        x.lose(5);
        Due.argument("lose(-1)", x, () -> x.lose(-1));
        Due.argument("lose(min)", x, () -> x.lose(Integer.MIN_VALUE));
        Due.is("first four", Racks.write(x, 0, 1), true);
        Due.is("what was told before stands", Racks.write(x, 0, 2), false);
        Due.argument("lose(-1) while off", x, () -> x.lose(-1));
    }
}
