/** Promise 15: holds. */
public final class Promise15HoldsTest {
    private static final int NONE = FileRounds.NONE;
    private static final int BAD = FileRounds.BAD;

    public static void main(String[] args) {
        numbersThatAreNoListener();
        numbersThatAreNoFile();
        numbersThatAreNotAsked();
        ofAllOthersNone();
        inATickInWhichItKnows();
        onceEach();
        allEighteen();
        theVersionTold();
        itGotNone();
        lacksUntilWhole();
        aTableEndsOldVersions();
        aTableOfTheSameVersions();
        newVersionBeforeItIsTold();
        theOldVersionWhileTheNewIsTold();
        versionRoundAgain();
        whatIsLostIsNotHeld();
        Due.end();
    }

    private static void holdsAre(FileRounds x, int l, int f, int... want) {
        for (int what = 0; what < 3; what++) {
            String call = "holds(" + l + ", " + f + ", " + what + ") behind " + x.count(1);
            Due.is(call, x.holds(l, f, what), want[what]);
        }
    }

    private static void numbersThatAreNoListener() {
        Due.sentence("15: BAD, of LISTENERS");
        FileRounds x = new FileRounds();
        Due.is("holds(0, 0, 0) without any", x.holds(0, 0, 0), BAD);
        x.join(0);
        for (int l : new int[] {-1, 1, 3, 4, Integer.MIN_VALUE, Integer.MAX_VALUE}) {
            for (int what = -1; what <= 3; what++) {
                Due.is("holds(" + l + ", 0, " + what + ")", x.holds(l, 0, what), BAD);
            }
        }
        x.join(0);
        x.join(0);
        x.join(0);
        Due.is("holds(3, 0, 2)", x.holds(3, 0, 2), 4);
        Due.is("holds(4, 0, 2)", x.holds(4, 0, 2), BAD);
    }

    private static void numbersThatAreNoFile() {
        Due.sentence("15: BAD, of FILES");
        FileRounds x = new FileRounds();
        x.join(0);
        for (int f : new int[] {-1, 3, 5, 6, Integer.MIN_VALUE, Integer.MAX_VALUE}) {
            for (int what = -1; what <= 3; what++) {
                Due.is("holds(0, " + f + ", " + what + ")", x.holds(0, f, what), BAD);
            }
        }
        Due.is("holds(0, 2, 2)", x.holds(0, 2, 2), 2);
    }

    private static void numbersThatAreNotAsked() {
        Due.sentence("15: BAD, of what");
        FileRounds x = new FileRounds();
        x.join(0);
        for (int what : new int[] {-1, 3, 4, Integer.MIN_VALUE, Integer.MAX_VALUE}) {
            Due.is("holds(0, 0, " + what + ")", x.holds(0, 0, what), BAD);
        }
    }

    private static void ofAllOthersNone() {
        Due.sentence("15: A SYMBOL that it gets in a TICK in which it KNOWS a TABLE; of all others it holds none");
        FileRounds x = new FileRounds();
        x.tick(1);
        x.join(0);
        x.tick(4);
        for (int f = 0; f < 3; f++) {
            Due.is("FILE " + f + " ahead of a TABLE", x.holds(0, f, 0), 0);
        }
        x.tick(1);
        holdsAre(x, 0, 0, 0, 0, 4);
        x.tick(1);
        holdsAre(x, 0, 2, 2, 0, 1);
        x.tick(3);
        holdsAre(x, 0, 0, 12, 0, 2);
        holdsAre(x, 0, 1, 0, 0, 6);
        holdsAre(x, 0, 2, 6, 0, 0);
    }

    private static void inATickInWhichItKnows() {
        Due.sentence("15: lives up to the TICK that is LIFE less 1 behind this one");
        FileRounds x = Due.laid("f12,6,1;t10,4;");
        x.join(0);
        int[] held = {0, 0, 1, 3, 7, 7, 7, 7, 7, 7, 7, 7, 519, 1543, 3591, 3591};
        for (int t = 0; t < held.length; t++) {
            Due.is("SYMBOLS ahead of " + t, x.holds(0, 0, 0), held[t]);
            x.tick(1);
        }
        FileRounds y = Due.laid("f1,0,1;t3,1;");
        y.join(0);
        y.tick(99);
        holdsAre(y, 0, 0, 0, 0, 1);
        FileRounds z = Due.laid("f1,0,1;t3,2;");
        z.join(0);
        z.tick(2);
        holdsAre(z, 0, 0, 1, 0, 0);
    }

    private static void onceEach() {
        Due.sentence("15: it holds (once each)");
        FileRounds x = Due.laid("f2,0,1;t20,20;");
        x.join(0);
        int[] held = {0, 1, 3, 3, 3, 3};
        int[] lacks = {2, 1, 0, 0, 0, 0};
        for (int t = 0; t < held.length; t++) {
            x.tick(1);
            holdsAre(x, 0, 0, held[t], 0, lacks[t]);
        }
        // FILE 0 sends its SYMBOL 0 right behind each TABLE, and no other one counts.
        FileRounds y = Due.laid("f2,0,1;t3,2;");
        y.join(0);
        y.tick(99);
        holdsAre(y, 0, 0, 1, 0, 1);
    }

    private static void allEighteen() {
        Due.sentence("15: SYMBOLS that it holds, as bits (what = 0)");
        FileRounds x = Due.laid("f12,6,1;t20,20;");
        x.join(0);
        x.tick(1);
        for (int s = 0; s < 18; s++) {
            x.tick(1);
            holdsAre(x, 0, 0, (1 << s + 1) - 1, 0, Math.max(0, 12 - s - 1));
        }
        Due.is("all", x.holds(0, 0, 0), 262143);
    }

    private static void theVersionTold() {
        Due.sentence("15: the VERSION told by the TABLE that it got last (1)");
        FileRounds x = Due.laid("f2,0,1;f2,0,1;t5,2;");
        x.renew(1);
        x.join(0);
        x.tick(1);
        Due.is("of FILE 0", x.holds(0, 0, 1), 0);
        Due.is("of FILE 1", x.holds(0, 1, 1), 1);
        x.renew(0);
        x.renew(0);
        Due.is("RENEWED behind it", x.holds(0, 0, 1), 0);
        x.tick(4);
        Due.is("KNOWS nothing", x.listener(0, 2), 0);
        Due.is("told last all the same", x.holds(0, 1, 1), 1);
        x.tick(1);
        Due.is("told anew", x.holds(0, 0, 1), 2);
        Due.is("told again", x.holds(0, 1, 1), 1);
    }

    private static void itGotNone() {
        Due.sentence("15: (1; NONE: it got none)");
        FileRounds x = new FileRounds();
        x.tick(1);
        x.join(0);
        x.tick(4);
        for (int f = 0; f < 3; f++) {
            Due.is("ahead of a TABLE, FILE " + f, x.holds(0, f, 1), NONE);
        }
        x.tick(1);
        for (int f = 0; f < 3; f++) {
            Due.is("behind it, FILE " + f, x.holds(0, f, 1), 0);
        }
        x.undo();
        Due.is("undone", x.holds(0, 0, 1), NONE);
    }

    private static void lacksUntilWhole() {
        Due.sentence("15: SYMBOLS that it lacks until it is WHOLE (2)");
        FileRounds x = Due.laid("f3,2,1;t20,20;");
        x.join(0);
        int[] lacks = {3, 3, 2, 1, 0, 0, 0, 0};
        for (int t = 0; t < lacks.length; t++) {
            Due.is("ahead of " + t, x.holds(0, 0, 2), lacks[t]);
            x.tick(1);
        }
    }

    private static void aTableEndsOldVersions() {
        Due.sentence("15: of each FILE whose VERSION it holds SYMBOLS of is another one it holds none any more");
        FileRounds x = new FileRounds();
        x.join(0);
        x.tick(10);
        x.renew(0);
        holdsAre(x, 0, 0, 15, 0, 0);
        x.tick(1);
        holdsAre(x, 0, 0, 0, 1, 4);
        holdsAre(x, 0, 1, 1, 0, 5);
        holdsAre(x, 0, 2, 7, 0, 0);
        x.tick(1);
        Due.is("sends VERSION 1", x.sent(0, 2), 1);
        holdsAre(x, 0, 0, 1, 1, 3);
    }

    private static void aTableOfTheSameVersions() {
        Due.sentence("15: (but holds what it holds)");
        FileRounds x = Due.laid("f12,6,1;t3,2;");
        x.join(0);
        int[] held = {0, 1, 1, 1, 1 | 4, 1 | 4, 1 | 4, 1 | 4 | 16};
        for (int t = 0; t < held.length; t++) {
            x.tick(1);
            Due.is("behind TICK " + t, x.holds(0, 0, 0), held[t]);
        }
    }

    private static void newVersionBeforeItIsTold() {
        Due.sentence("15: and that is of the VERSION told, it holds");
        FileRounds x = Due.laid("f3,0,1;t6,20;");
        x.join(0);
        x.tick(3);
        x.renew(0);
        x.tick(3);
        holdsAre(x, 0, 0, 3, 0, 1);
        x.tick(1);
        holdsAre(x, 0, 0, 0, 1, 3);
        x.tick(1);
        Due.is("the SYMBOL sent", x.sent(0, 1), 0);
        holdsAre(x, 0, 0, 1, 1, 2);
    }

    private static void theOldVersionWhileTheNewIsTold() {
        Due.sentence("15: of the VERSION told, back by undo");
        FileRounds x = Due.laid("f3,0,1;t6,20;");
        x.join(0);
        x.tick(3);
        x.renew(0);
        x.tick(5);
        holdsAre(x, 0, 0, 1, 1, 2);
        x.undo();
        holdsAre(x, 0, 0, 3, 0, 1);
        x.undo();
        x.tick(1);
        holdsAre(x, 0, 0, 7, 0, 0);
    }

    private static void versionRoundAgain() {
        Due.sentence("15: VERSION (behind 99 it is 0), the same number once more");
        FileRounds x = Due.laid("f3,0,1;t6,20;");
        x.join(0);
        x.tick(3);
        for (int i = 0; i < 100; i++) {
            x.renew(0);
        }
        x.tick(4);
        holdsAre(x, 0, 0, 7, 0, 0);
        FileRounds y = Due.laid("f3,0,1;t6,20;");
        y.join(0);
        y.tick(3);
        for (int i = 0; i < 99; i++) {
            y.renew(0);
        }
        y.tick(4);
        holdsAre(y, 0, 0, 0, 99, 3);
        y.renew(0);
        y.tick(6);
        holdsAre(y, 0, 0, 0, 0, 3);
    }

    private static void whatIsLostIsNotHeld() {
        Due.sentence("15: get what is SENT .. but in TICK t, if ..");
        // Where the SYMBOL behind a TABLE makes less than the TABLE itself, a LOSS between loses it alone.
        boolean seen = false;
        for (int e = 3; e <= 20; e++) {
            long table = (3571L * e + 1) * (3571L * e + 1) % 65521 % 100;
            long symbol = (3571L * e + 3572) * (3571L * e + 3572) % 65521 % 100;
            if (symbol < table) {
                seen = true;
                FileRounds x = Due.laid("f12,6,1;t" + e + ",2;");
                x.tick(e);
                x.join((int) table);
                x.tick(2);
                Due.is("KNEW, E " + e, x.listener(0, 3), e + 1);
                Due.is("lost the SYMBOL", x.listener(0, 5), 1);
                Due.is("holds none", x.holds(0, 0, 0), 0);
            }
        }
        Due.is("there is one", seen ? 1 : 0, 1);
    }
}
