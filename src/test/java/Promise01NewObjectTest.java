/** Promise 1: a new object. */
public final class Promise01NewObjectTest {
    private static final int NONE = FileRounds.NONE;
    private static final int BAD = FileRounds.BAD;
    private static final int NO = FileRounds.NO;
    private static final String FIRST = "f4,2,3;f6,0,1;f2,1,2;t5,12;";

    public static void main(String[] args) {
        theFirstTextIsLaid();
        nothingWentBy();
        filesStandAtTheirBeginning();
        theTextIsEmpty();
        noChangeCanBeUndone();
        goesOnAsIfThatTextWereLaid();
        objectsStandApart();
        Due.end();
    }

    private static void theFirstTextIsLaid() {
        Due.sentence("1: at first f4,2,3;f6,0,1;f2,1,2;t5,12;");
        FileRounds x = new FileRounds();
        int[][] files = {{4, 2, 3}, {6, 0, 1}, {2, 1, 2}};
        for (int f = 0; f < 3; f++) {
            for (int what = 0; what < 3; what++) {
                Due.is("file(" + f + ", " + what + ")", x.file(f, what), files[f][what]);
            }
        }
        Due.is("FILES", x.count(0), 3);
        Due.is("a fourth", x.file(3, 0), BAD);
        Due.is("E", x.count(2), 5);
        Due.is("LIFE", x.count(3), 12);
        Due.is("WEIGHTS together", x.count(7), 6);
    }

    private static void nothingWentBy() {
        Due.sentence("1: TICK 0, no LISTENERS, nothing was SENT");
        FileRounds x = new FileRounds();
        Due.is("TICKS", x.count(1), 0);
        Due.is("LISTENERS", x.count(4), 0);
        Due.is("listener(0, 0)", x.listener(0, 0), BAD);
        Due.is("holds(0, 0, 0)", x.holds(0, 0, 0), BAD);
        Due.is("TABLES", x.count(5), 0);
        Due.is("SYMBOLS", x.count(6), 0);
        for (int what = 0; what < 4; what++) {
            Due.is("sent(0, " + what + ")", x.sent(0, what), NONE);
        }
    }

    private static void filesStandAtTheirBeginning() {
        Due.sentence("1: all CREDITS 0, all FILES send SYMBOL 0 next; VERSION of each is 0 at first");
        FileRounds x = new FileRounds();
        for (int f = 0; f < 3; f++) {
            Due.is("VERSION of " + f, x.file(f, 3), 0);
            Due.is("next SYMBOL of " + f, x.file(f, 4), 0);
            Due.is("CREDIT and 1000 of " + f, x.file(f, 5), 1000);
            Due.is("SENT of " + f, x.file(f, 6), 0);
            Due.is("PART of " + f, x.file(f, 7), NONE);
        }
    }

    private static void theTextIsEmpty() {
        Due.sentence("1: THE TEXT is empty");
        FileRounds x = new FileRounds();
        Due.is("letters", x.count(9), 0);
        Due.is("fault()", x.fault(), NONE);
        Due.is("lay()", x.lay(), NO);
        Due.is("wipe()", x.wipe(), 0);
        Due.is("write(32)", x.write(32), 1);
    }

    private static void noChangeCanBeUndone() {
        Due.sentence("1: behind LAID none can be");
        FileRounds x = new FileRounds();
        Due.is("changes", x.count(8), 0);
        Due.is("undo()", x.undo(), NO);
        Due.is("changes still", x.count(8), 0);
    }

    private static void goesOnAsIfThatTextWereLaid() {
        Due.sentence("1: As told");
        FileRounds x = new FileRounds();
        FileRounds y = Due.laid(FIRST);
        Due.write(x, FIRST);
        for (FileRounds z : new FileRounds[] {x, y}) {
            z.join(20);
            z.tick(31);
            z.renew(2);
            z.tick(8);
        }
        Due.alike("a new object and one with that text", x, y);
    }

    private static void objectsStandApart() {
        Due.sentence("1: A new object");
        FileRounds x = new FileRounds();
        x.tick(17);
        x.weigh(0, 9);
        x.renew(1);
        x.join(3);
        Due.write(x, "f1,0,1;");
        x.lay();
        Due.alike("one made behind another was used", new FileRounds(), new FileRounds());
        FileRounds y = new FileRounds();
        Due.is("its FILES", y.count(0), 3);
        y.tick(9);
        Due.is("TICKS of the other", x.count(1), 0);
        Due.is("THE TEXT of the other", x.count(9), 7);
    }
}
