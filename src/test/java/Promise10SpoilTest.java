/** Promise 10: spoil. What is refused is in TermsRefusedTest too. */
public final class Promise10SpoilTest {
    public static void main(String[] args) {
        lowestBytes();
        fromPlaceAtOn();
        isSpoilt();
        whileOff();
        failedDisk();
        noPlace();
        refused();
        validWithOtherBytes();
        validAsWrittenLast();
        writtenLastIsWhatCameLast();
        noSuchDisk();
        wrongOffset();
        wrongCount();
        wrongAt();
        noBytes();
        throwsBeforeItAnswers();
        Due.end();
    }

    private static void lowestBytes() {
        Due.sentence("The n lowest bytes of mask, lowest first, are xored");
        for (int n = 1; n <= 8; n++) {
            Field x = Racks.six();
            long mask = 0x1817161514131211L;
            Due.is("spoil " + n, x.spoil(0, 0, 20, n, mask), true);
            for (int i = 0; i < n; i++) {
                Due.is("it is spoilt till the last byte is undone", x.look(Racks.SPOILT), 1);
                Due.is("a byte alone, with others above it", x.spoil(0, 0, 20 + i, 1, (-1L << 8) | (0x11 + i)), true);
            }
            Due.is("so none is spoilt, with n " + n, x.look(Racks.SPOILT), 0);
        }
    }

    private static void fromPlaceAtOn() {
        Due.sentence("to those of a cell from place at on");
        for (int n = 1; n <= 8; n++) {
            Field x = Racks.six();
            for (int at : new int[] {0, 57, 63, 64, 65, 70 - n}) {
                if (at > 70 - n) {
                    continue;
                }
                Due.is("spoil", x.spoil(0, 0, at, n, -1L), true);
                for (int i = n - 1; i >= 0; i--) {
                    Due.is("a byte back", x.spoil(0, 0, at + i, 1, 255), true);
                }
                Due.is("none is spoilt, at " + at + ", n " + n, x.look(Racks.SPOILT), 0);
            }
        }
    }

    private static void isSpoilt() {
        Due.sentence("so to spoil it: true");
        Field x = Racks.six();
        int writes = x.look(Racks.WRITES);
        for (int at = 0; at < 70; at++) {
            Due.is("spoil", x.spoil(0, 0, at, 1, 1L << (at % 8)), true);
            Due.is("spoilt", x.look(Racks.SPOILT), 1);
            Due.is("back as written", x.spoil(0, 0, at, 1, 1L << (at % 8)), true);
        }
        Due.is("none is spoilt", x.look(Racks.SPOILT), 0);
        Due.is("no write", x.look(Racks.WRITES), writes);
    }

    private static void answersFalse(String why, Field x, int disk, int offset) {
        String before = Racks.seen(x);
        for (int n = 1; n <= 8; n += 7) {
            Due.is(why, x.spoil(disk, offset, 0, n, 1), false);
            Due.is(why, x.spoil(disk, offset, 70 - n, n, 1), false);
        }
        Due.is(why + " changes nothing", Racks.seen(x), before);
    }

    private static void whileOff() {
        Due.sentence("false when it is off");
        Field x = Racks.rebuilt();
        x.off();
        answersFalse("a home", x, 1, 0);
        answersFalse("a spare that is a place", x, 3, 0);
        x.open();
        Due.is("opened", x.spoil(1, 0, 0, 1, 1), true);
        x.off();
        answersFalse("a spoilt one", x, 1, 0);
        Field y = Racks.six();
        Racks.cutWrite(y, 0, 1, 1);
        answersFalse("power lost", y, 0, 0);
    }

    private static void failedDisk() {
        Due.sentence("the disk is failed");
        Field x = Racks.six();
        x.fail(0);
        answersFalse("a home that was there", x, 0, 0);
        answersFalse("a spare that was there", x, 0, 2);
        Field y = Racks.rebuilt();
        answersFalse("a home that is in a spare now", y, 0, 0);
    }

    /** Row 0: homes on the disks 0, 1, 2, spares on 3, 4, 5. */
    private static void noPlace() {
        Due.sentence("the cell is no place");
        Field x = Racks.six();
        for (int disk = 0; disk < 6; disk++) {
            Due.is("disk " + disk, x.twin().spoil(disk, 0, 0, 1, 1), disk < 3);
        }
        answersFalse("a free spare", x, 3, 0);
        Field y = Racks.rebuilt();
        Due.is("a spare that is a place", y.twin().spoil(3, 0, 0, 1, 1), true);
        answersFalse("a free spare beside it", y, 4, 0);
        y.replace(0);
        answersFalse("a blank home", y, 0, 0);
        answersFalse("a blank spare", y, 0, 2);
        y.copyBack();
        answersFalse("a spare that was a place", y, 3, 0);
        Due.is("the home now", y.spoil(0, 0, 0, 1, 1), true);
        Field z = Racks.rebuilt();
        z.spoil(3, 0, 0, 1, 1);
        Racks.offAndOpen(z);
        answersFalse("a spoilt spare that opening did not find", z, 3, 0);
    }

    private static void refused() {
        Due.sentence("that is refused");
        for (int hurt = 0; hurt < 3; hurt++) {
            for (int disk = 0; disk < 3; disk++) {
                Field x = Racks.six();
                x.spoil(hurt, 0, 5, 1, 1);
                if (disk == hurt) {
                    Due.is("the same once more", x.spoil(disk, 0, 6, 1, 1), true);
                } else {
                    answersFalse("another is spoilt", x, disk, 0);
                }
                Field y = Racks.six();
                y.fail(hurt);
                if (disk != hurt) {
                    answersFalse("another is lost", y, disk, 0);
                }
            }
        }
    }

    private static void validWithOtherBytes() {
        Due.sentence("or the cell would be valid then with other bytes than were written last.");
        Field x = Racks.six();
        for (int bytes : new int[] {1, 0x100, 0x10000, 0x1000000, 0x12345678, -1}) {
            long mask = Racks.forgedMask(bytes);
            String before = Racks.seen(x);
            Due.is("bytes and their check", x.spoil(0, 0, 62, 8, mask), false);
            Due.is("changes nothing", Racks.seen(x), before);
            Due.is("the bytes alone", x.spoil(0, 0, 62, 4, mask), true);
            Due.is("the check to them", x.spoil(0, 0, 66, 4, mask >>> 32), false);
            Due.is("spoilt still", x.look(Racks.SPOILT), 1);
            Due.is("another check", x.spoil(0, 0, 66, 4, (mask >>> 32) ^ 1), true);
            Due.is("the last bit of it", x.spoil(0, 0, 66, 1, 1), false);
            x.spoil(0, 0, 66, 4, (mask >>> 32) ^ 1);
            x.spoil(0, 0, 62, 4, mask);
            Due.is("none is spoilt", x.look(Racks.SPOILT), 0);
        }
    }

    private static void validAsWrittenLast() {
        Due.sentence("valid then with other bytes than were written last.");
        Field x = Racks.six();
        Due.is("spoil", x.spoil(0, 0, 3, 2, 0x0101), true);
        Due.is("half of it back", x.spoil(0, 0, 3, 1, 1), true);
        Due.is("spoilt", x.look(Racks.SPOILT), 1);
        Due.is("the other half", x.spoil(0, 0, 4, 1, 1), true);
        Due.is("valid with the bytes written last", x.look(Racks.SPOILT), 0);
        Due.is("read", x.read(0, 0), 1000);
        Due.is("so another may be spoilt", x.spoil(1, 0, 3, 1, 1), true);
    }

    /** What was xored before a cell was written says nothing of what comes behind. */
    private static void writtenLastIsWhatCameLast() {
        Due.sentence("than were written last.");
        for (int at = 0; at < 70; at++) {
            Field x = new Field(6, 3, 48);
            x.spoil(0, 0, at, 1, 1);
            Due.is("scrub", x.scrub(), 1);
            Due.is("spoil what was scrubbed", x.spoil(0, 0, 5, 1, 1), true);
            Due.is("back as written", x.spoil(0, 0, 5, 1, 1), true);
            Due.is("none is spoilt", x.look(Racks.SPOILT), 0);
            x.spoil(1, 0, at, 1, 1);
            Racks.write(x, 1, 1);
            Due.is("spoil what was written", x.spoil(1, 0, 5, 1, 1), true);
            Due.is("back as written", x.spoil(1, 0, 5, 1, 1), true);
            Due.is("none is spoilt", x.look(Racks.SPOILT), 0);
        }
        Field x = Racks.six();
        long mask = Racks.forgedMask(0x12345678);
        x.spoil(0, 0, 62, 4, mask);
        x.scrub();
        Due.is("the check to bytes that are gone", x.spoil(0, 0, 66, 4, mask >>> 32), true);
        Due.is("the bytes to that check", x.spoil(0, 0, 62, 4, mask), false);
    }

    private static void noSuchDisk() {
        Due.sentence("Throws IllegalArgumentException when there is no such disk");
        for (int disks : new int[] {6, 7, 16}) {
            Field x = new Field(disks, 3, 48);
            Due.argument("-1", x, () -> x.spoil(-1, 0, 0, 1, 1));
            Due.argument("one behind the last", x, () -> x.spoil(disks, 0, 0, 1, 1));
            for (int far : Racks.FAR) {
                Due.argument("" + far, x, () -> x.spoil(far, 0, 0, 1, 1));
            }
            // In row r position 0 lies on disk r mod n.
            Due.is("the first one", x.spoil(0, 0, 0, 1, 1), true);
            Due.is("the last one", x.spoil(disks - 1, disks - 1, 0, 1, 1), true);
        }
    }

    private static void wrongOffset() {
        Due.sentence("offset is not 0 .. ROWS - 1");
        for (int rows : new int[] {48, 49, 64}) {
            Field x = new Field(6, 3, rows);
            Due.argument("-1", x, () -> x.spoil(0, -1, 0, 1, 1));
            Due.argument("ROWS: a log", x, () -> x.spoil(0, rows, 0, 1, 1));
            Due.argument("ROWS + 1", x, () -> x.spoil(0, rows + 1, 0, 1, 1));
            for (int far : Racks.FAR) {
                Due.argument("" + far, x, () -> x.spoil(0, far, 0, 1, 1));
            }
            Due.is("0", x.spoil(0, 0, 0, 1, 1), true);
            Due.is("ROWS - 1", x.spoil((rows - 1) % 6, rows - 1, 0, 1, 1), true);
        }
    }

    private static void wrongCount() {
        Due.sentence("n not 1 .. 8");
        Field x = new Field(6, 3, 48);
        for (int n : new int[] {-1, 0, 9, 64, 70}) {
            Due.argument("n " + n, x, () -> x.spoil(0, 0, 0, n, 1));
        }
        for (int n : Racks.FAR) {
            Due.argument("n " + n, x, () -> x.spoil(0, 0, 0, n, 1));
        }
        Due.is("1", x.spoil(0, 0, 0, 1, 1), true);
        Due.is("8", x.spoil(0, 0, 0, 8, 2), true);
    }

    private static void wrongAt() {
        Due.sentence("at not 0 .. 70 - n");
        for (int n = 1; n <= 8; n++) {
            int bytes = n;
            Field x = new Field(6, 3, 48);
            Due.argument("-1", x, () -> x.spoil(0, 0, -1, bytes, 1));
            Due.argument("71 - n", x, () -> x.spoil(0, 0, 71 - bytes, bytes, 1));
            Due.argument("70", x, () -> x.spoil(0, 0, 70, bytes, 1));
            for (int far : Racks.FAR) {
                Due.argument("" + far, x, () -> x.spoil(0, 0, far, bytes, 1));
            }
            Due.is("0", x.spoil(0, 0, 0, n, 1), true);
            Due.is("70 - n", x.spoil(0, 0, 70 - n, n, 1), true);
        }
    }

    private static void noBytes() {
        Due.sentence("or the n bytes of mask are all 0.");
        Field x = new Field(6, 3, 48);
        for (int n = 1; n <= 8; n++) {
            int bytes = n;
            Due.argument("mask 0, n " + n, x, () -> x.spoil(0, 0, 0, bytes, 0));
            if (n < 8) {
                Due.argument("all bytes above them", x, () -> x.spoil(0, 0, 0, bytes, -1L << (8 * bytes)));
                Due.argument("the next bit", x, () -> x.spoil(0, 0, 0, bytes, 1L << (8 * bytes)));
            }
            Due.is("the lowest bit", x.spoil(0, 0, 0, n, 1), true);
            Due.is("the highest bit", x.spoil(0, 0, 0, n, 1L << (8 * n - 1)), true);
            x.spoil(0, 0, 0, n, 1L | 1L << (8 * n - 1));
        }
    }

    private static void throwsBeforeItAnswers() {
        Due.sentence("Throws IllegalArgumentException when there is no such disk, offset is not 0 .. ROWS - 1, n not 1 .. 8, "
            + "at not 0 .. 70 - n, or the n bytes of mask are all 0.");
        Field x = Racks.six();
        x.fail(0);
        throwsForAll(x);
        x.off();
        throwsForAll(x);
        Due.is("right inputs while off", x.spoil(1, 0, 69, 1, 1), false);
    }

    private static void throwsForAll(Field x) {
        Due.argument("disk", x, () -> x.spoil(6, 0, 0, 1, 1));
        Due.argument("offset", x, () -> x.spoil(0, 48, 0, 1, 1));
        Due.argument("n", x, () -> x.spoil(0, 0, 0, 0, 1));
        Due.argument("at", x, () -> x.spoil(0, 0, 70, 1, 1));
        Due.argument("mask", x, () -> x.spoil(0, 0, 0, 1, 256));
        Due.argument("all of them", x, () -> x.spoil(-1, -1, -1, -1, 0));
    }
}
