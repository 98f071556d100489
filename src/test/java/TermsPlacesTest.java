/** Terms: places, and what is lost, free and spoilt. */
public final class TermsPlacesTest {
    public static void main(String[] args) {
        homeSpareOrNone();
        knownWhileOn();
        free();
        spoilt();
        Due.end();
    }

    private static void homeSpareOrNone() {
        Due.sentence("the cell that has it: that of position p itself (HOME), or a spare of its row, or none: LOST.");
        Field x = Racks.six();
        Due.is("home", x.place(0, 0), 0);
        x.fail(0);
        Due.is("none", x.place(0, 0), -1);
        x.rebuild();
        Due.is("a spare of its row", x.place(0, 0), 3);
        x.fail(3);
        Due.is("none again", x.place(0, 0), -1);
        x.rebuild();
        Due.is("another spare of its row", x.place(0, 0), 4);
        x.replace(0);
        x.copyBack();
        Due.is("home again", x.place(0, 0), 0);
    }

    private static void knownWhileOn() {
        Due.sentence("It is known while the field is ON.");
        Field x = Racks.rebuilt();
        x.spoil(3, 0, 64, 2, 0x0101);
        Due.is("a spare whose tag is spoilt is the place still", x.place(0, 0), 3);
        Due.is("it is written there", Racks.write(x, 0, 5), true);
        Due.is("and is right again", x.look(Racks.SPOILT), 0);
        x.spoil(3, 0, 64, 2, 0x0101);
        x.off();
        Due.is("off, it has to be found", x.place(0, 0), -1);
    }

    private static void free() {
        Due.sentence("A spare is FREE if it is no place.");
        Field x = Racks.rebuilt();
        int free = x.look(Racks.FREE);
        Due.is("those of live disks that are no places", free, 48 * 3 - 24 - 24);
        x.spoil(3, 0, 0, 1, 1);
        Due.is("a spoilt one that is a place is not", x.look(Racks.FREE), free);
        Racks.offAndOpen(x);
        Due.is("a spoilt one that is no place is", x.look(Racks.FREE), free + 1);
        Due.is("so it is taken", x.rebuild(), 1);
        Due.is("it is the first of its row", x.place(0, 0), 3);
        Due.is("and right again", x.look(Racks.FREE), free);
        x.replace(0);
        Due.is("blank ones are", x.look(Racks.FREE), free + 24);
    }

    private static void spoilt() {
        Due.sentence("A cell that is a place and not valid is SPOILT.");
        Field x = Racks.rebuilt();
        x.spoil(1, 0, 0, 1, 1);
        Due.is("a home", x.look(Racks.SPOILT), 1);
        x.spoil(4, 1, 0, 1, 1);
        Due.is("a spare that is a place", x.look(Racks.SPOILT), 2);
        Racks.offAndOpen(x);
        Due.is("that spare is no place now", x.look(Racks.SPOILT), 1);
        Due.is("rebuild", x.rebuild(), 1);
        Due.is("fail", x.fail(1), true);
        Due.is("its disk failed: lost, not spoilt", x.look(Racks.SPOILT), 0);
        x.replace(1);
        Due.is("blank: lost, not spoilt", x.look(Racks.SPOILT), 0);
    }
}
