/** Promise 6: off. */
public final class Promise06OffTest {
    public static void main(String[] args) {
        StripeField x = Racks.rebuilt();
        x.feed(3, 3);
        int writes = x.look(1);
        x.off();
        Due.is("off", x.look(0), 0);
        Due.state("off while off", x, x::off);
        Due.is("no write", x.look(1), writes);
        Due.is("the tape stays", x.look(12), 3);
        Due.state("write", x, () -> x.write(0));
        Due.state("read", x, () -> x.read(0, 0));
        Due.state("rebuild", x, x::rebuild);
        Due.state("copyBack", x, x::copyBack);
        Due.state("scrub", x, x::scrub);
        x.open();
        Due.is("on", x.look(0), 1);
        Racks.areFilled("opened", x);

        StripeField lost = new StripeField(6, 3, 48);
        Racks.cutWrite(lost, 0, 1, 1);
        Due.state("off when power was lost", lost, lost::off);
        Due.end();
    }
}
