/** The example of README.md, call by call, with the answers that stand behind the calls there. */
public final class ReadmeTest {
    public static void main(String[] args) {
        Due.sentence("README.md, How to use it");
        Field field = new Field(9, 4, 50);
        Due.is("feed", field.feed(8, 42L), 8);
        Due.is("write", field.write(10), true);
        Due.is("the tape is empty", field.look(Racks.TAPE), 0);
        Due.is("place", field.place(1, 5), 2);
        Due.is("fail", field.fail(2), true);
        Due.is("block 10's place is lost", field.place(1, 5), -1);
        Due.is("read, reckoned", field.read(10, 0), 42);
        Due.is("rebuilding writes something", Racks.all(field::rebuild) > 0, true);
        Due.is("replace", field.replace(2), true);
        Due.is("copying back writes something", Racks.all(field::copyBack) > 0, true);
        Due.is("block 10 came home", field.place(1, 5), 2);
        Due.is("spoil", field.spoil(2, 1, 0, 1, 255L), true);
        Due.is("read, though spoilt", field.read(10, 0), 42);
        while (field.look(Racks.SPOILT) > 0 && field.callsLeft() > 10) {
            field.scrub();
        }
        Due.is("no cell is spoilt", field.look(Racks.SPOILT), 0);
        field.lose(3);
        Due.is("feed once more", field.feed(1, 7L), 1);
        Due.is("write, power lost", field.write(10), false);
        Due.is("open", field.open(), true);
        Due.is("read at last", field.read(10, 0), 7);
        Due.end();
    }
}
