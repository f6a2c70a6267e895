/** Promise 3: wipe. */
public final class Promise03WipeTest {
    private static final int NONE = FileRounds.NONE;

    public static void main(String[] args) {
        anEmptyText();
        howLongItWas();
        emptyBehindIt();
        oldLettersAreGone();
        whatIsLaidStays();
        isNoChange();
        Due.end();
    }

    private static void anEmptyText() {
        Due.sentence("3: how long it was, empty");
        FileRounds x = new FileRounds();
        Due.is("wipe()", x.wipe(), 0);
        Due.is("wipe() again", x.wipe(), 0);
    }

    private static void howLongItWas() {
        Due.sentence("3: how long it was");
        FileRounds x = new FileRounds();
        x.write(102);
        Due.is("wipe() of one", x.wipe(), 1);
        for (int i = 0; i < 199; i++) {
            x.write(59);
        }
        Due.is("wipe() of 199", x.wipe(), 199);
        for (int i = 0; i < 205; i++) {
            x.write(59);
        }
        Due.is("wipe() of a full one", x.wipe(), 200);
    }

    private static void emptyBehindIt() {
        Due.sentence("3: THE TEXT is empty");
        FileRounds x = new FileRounds();
        Due.write(x, "f1,0,1;x");
        Due.is("fault() ahead", x.fault(), 7);
        Due.is("wipe()", x.wipe(), 8);
        Due.is("letters", x.count(9), 0);
        Due.is("fault()", x.fault(), NONE);
        Due.is("lay()", x.lay(), FileRounds.NO);
        Due.is("wipe() again", x.wipe(), 0);
        Due.is("write(102)", x.write(102), 1);
    }

    private static void oldLettersAreGone() {
        Due.sentence("3: THE TEXT is empty, behind shorter ones too");
        FileRounds x = new FileRounds();
        Due.write(x, "f1,0,1;f1,0,2;t3,5;");
        x.wipe();
        Due.write(x, "f1,0,1");
        Due.is("no ; though one stood there", x.fault(), 0);
        x.write(';');
        Due.is("with it", x.fault(), NONE);
        Due.is("lay()", x.lay(), 1);
        Due.is("E of no TABLE", x.count(2), 6);
    }

    private static void whatIsLaidStays() {
        Due.sentence("3: THE TEXT alone");
        FileRounds x = Due.laid("f3,1,4;f2,0,5;t7,8;");
        FileRounds y = Due.laid("f3,1,4;f2,0,5;t7,8;");
        for (FileRounds z : new FileRounds[] {x, y}) {
            z.join(10);
            z.tick(20);
        }
        Due.is("wipe()", x.wipe(), 19);
        boolean same = Standing.ofWhatIsLaid(x).equals(Standing.ofWhatIsLaid(y));
        Due.is("stands as without it", same ? 1 : 0, 1);
    }

    private static void isNoChange() {
        Due.sentence("3: it is none of the changes");
        FileRounds x = new FileRounds();
        x.tick(3);
        x.write(102);
        x.wipe();
        Due.is("changes", x.count(8), 1);
        x.write(102);
        Due.is("undo()", x.undo(), 0);
        Due.is("TICKS", x.count(1), 0);
        Due.is("THE TEXT stays", x.count(9), 1);
    }
}
