/** Promise 14: listener. */
public final class Promise14ListenerTest {
    private static final int NONE = FileRounds.NONE;
    private static final int BAD = FileRounds.BAD;

    public static void main(String[] args) {
        numbersThatAreNoListener();
        numbersThatAreNotAsked();
        oneWhoJustCame();
        theTickThatWasNext();
        knowsUpToTheLastTick();
        aLifeOfOneTick();
        aTableWhileOneIsKnown();
        aTableThatIsLost();
        itGotNone();
        wholeOfFiles();
        wholeWithSpareOnes();
        wholeNoMore();
        wholeThoughItKnowsNothing();
        whatItDidNotGet();
        Due.end();
    }

    private static void listenerIs(FileRounds x, int l, int... want) {
        for (int what = 0; what < 6; what++) {
            Due.is("listener(" + l + ", " + what + ") behind " + x.count(1), x.listener(l, what), want[what]);
        }
    }

    private static void numbersThatAreNoListener() {
        Due.sentence("14: BAD, of LISTENERS");
        FileRounds x = new FileRounds();
        Due.is("listener(0, 0) without any", x.listener(0, 0), BAD);
        x.join(5);
        for (int l : new int[] {-1, 1, 2, 3, 4, Integer.MIN_VALUE, Integer.MAX_VALUE}) {
            for (int what = -1; what <= 6; what++) {
                Due.is("listener(" + l + ", " + what + ")", x.listener(l, what), BAD);
            }
        }
        x.join(6);
        x.join(7);
        x.join(8);
        Due.is("listener(3, 0)", x.listener(3, 0), 8);
        Due.is("listener(4, 0)", x.listener(4, 0), BAD);
        x.undo();
        Due.is("listener(3, 0), undone", x.listener(3, 0), BAD);
    }

    private static void numbersThatAreNotAsked() {
        Due.sentence("14: BAD, of what");
        FileRounds x = new FileRounds();
        x.join(5);
        for (int what : new int[] {-1, 6, 7, Integer.MIN_VALUE, Integer.MAX_VALUE}) {
            Due.is("listener(0, " + what + ")", x.listener(0, what), BAD);
        }
    }

    private static void oneWhoJustCame() {
        Due.sentence("14: Of a LISTENER, one who just came");
        FileRounds x = new FileRounds();
        x.tick(3);
        x.join(99);
        listenerIs(x, 0, 99, 3, 0, NONE, 0, 0);
    }

    private static void theTickThatWasNext() {
        Due.sentence("14: the TICK that was next when it came (1)");
        FileRounds x = new FileRounds();
        x.join(0);
        x.tick(1);
        x.join(0);
        x.tick(99);
        x.join(0);
        for (int i = 0; i < 100; i++) {
            x.tick(99);
        }
        int end = x.count(1);
        x.tick(9999 - end);
        x.join(0);
        int[] came = {0, 1, 100, 9999};
        for (int l = 0; l < 4; l++) {
            Due.is("listener(" + l + ", 1)", x.listener(l, 1), came[l]);
        }
    }

    private static void knowsUpToTheLastTick() {
        Due.sentence("14: lives up to the TICK that is LIFE less 1 behind this one");
        FileRounds x = Due.laid("f12,6,1;t10,4;");
        x.join(0);
        int[] knows = {0, 1, 1, 1, 0, 0, 0, 0, 0, 0, 0, 1, 1, 1, 0};
        for (int t = 0; t < knows.length; t++) {
            Due.is("KNOWS ahead of " + t, x.listener(0, 2), knows[t]);
            Due.is("lives to, ahead of " + t, x.listener(0, 3), t == 0 ? NONE : t <= 10 ? 3 : 13);
            x.tick(1);
        }
        FileRounds y = Due.laid("f1,0,1;t20,99;");
        y.join(0);
        y.tick(1);
        Due.is("a LIFE of 99", y.listener(0, 3), 98);
    }

    private static void aLifeOfOneTick() {
        Due.sentence("14: LIFE (1 to 99), of 1 and of 2");
        FileRounds x = Due.laid("f1,0,1;t3,1;");
        x.join(0);
        x.tick(1);
        listenerIs(x, 0, 0, 0, 0, 0, 0, 0);
        x.tick(98);
        listenerIs(x, 0, 0, 0, 0, 96, 0, 0);
        FileRounds y = Due.laid("f1,0,1;t3,2;");
        y.join(0);
        y.tick(1);
        listenerIs(y, 0, 0, 0, 1, 1, 0, 0);
        y.tick(1);
        listenerIs(y, 0, 0, 0, 0, 1, 1, 0);
    }

    private static void aTableWhileOneIsKnown() {
        Due.sentence("14: A LISTENER that gets a TABLE KNOWS it");
        FileRounds x = Due.laid("f12,0,1;t5,7;");
        x.join(0);
        for (int t = 1; t <= 30; t++) {
            x.tick(1);
            Due.is("KNOWS ahead of " + t, x.listener(0, 2), 1);
            Due.is("lives to, ahead of " + t, x.listener(0, 3), (t - 1) / 5 * 5 + 6);
        }
    }

    private static void aTableThatIsLost() {
        Due.sentence("14: what it did not get, it does not KNOW");
        // In TICK 0 x of LISTENER 1 is 7920, and that makes 3.
        FileRounds x = Due.laid("f2,0,1;t3,3;");
        x.join(0);
        x.join(4);
        x.tick(1);
        listenerIs(x, 1, 4, 0, 0, NONE, 0, 1);
        FileRounds y = Due.laid("f2,0,1;t3,3;");
        y.join(0);
        y.join(3);
        y.tick(1);
        listenerIs(y, 1, 3, 0, 1, 2, 0, 0);
    }

    private static void itGotNone() {
        Due.sentence("14: the last TICK in which that lives (3; NONE: it got none)");
        FileRounds x = new FileRounds();
        x.tick(1);
        x.join(0);
        for (int t = 1; t < 5; t++) {
            Due.is("ahead of " + t, x.listener(0, 3), NONE);
            x.tick(1);
        }
        Due.is("ahead of the TABLE", x.listener(0, 3), NONE);
        x.tick(1);
        Due.is("behind it", x.listener(0, 3), 16);
        x.undo();
        Due.is("undone", x.listener(0, 3), NONE);
    }

    private static void wholeOfFiles() {
        Due.sentence("14: FILES that it is WHOLE of (4; bits)");
        FileRounds x = Due.laid("f1,0,1;f1,0,1;f1,0,1;f1,0,1;f1,0,1;f1,0,1;t20,20;");
        x.join(0);
        x.tick(1);
        for (int f = 0; f < 6; f++) {
            Due.is("ahead of FILE " + f, x.listener(0, 4), (1 << f) - 1);
            x.tick(1);
        }
        Due.is("of all six", x.listener(0, 4), 63);
    }

    private static void wholeWithSpareOnes() {
        Due.sentence("14: WHOLE of a FILE, if it holds NEED of its SYMBOLS or more");
        FileRounds x = Due.laid("f3,2,1;t20,20;");
        x.join(0);
        x.tick(3);
        Due.is("one less", x.listener(0, 4), 0);
        x.tick(1);
        Due.is("NEED", x.listener(0, 4), 1);
        x.tick(1);
        Due.is("one more", x.listener(0, 4), 1);
        x.tick(10);
        Due.is("all", x.listener(0, 4), 1);
        // Who comes behind TICK 3 gets the TABLE in 5 and SYMBOLS 4, 0, 1 of five: any that are enough.
        FileRounds y = Due.laid("f3,2,1;t5,20;");
        y.tick(4);
        y.join(0);
        y.tick(4);
        Due.is("SYMBOLS 4 and 0", y.holds(0, 0, 0), 17);
        Due.is("not yet", y.listener(0, 4), 0);
        y.tick(1);
        Due.is("with 1", y.holds(0, 0, 0), 19);
        Due.is("WHOLE", y.listener(0, 4), 1);
    }

    private static void wholeNoMore() {
        Due.sentence("14: (it is not WHOLE any more)");
        FileRounds x = new FileRounds();
        x.join(0);
        x.tick(10);
        Due.is("WHOLE", x.listener(0, 4), 5);
        x.renew(0);
        x.renew(2);
        Due.is("RENEWED, not told", x.listener(0, 4), 5);
        x.tick(1);
        Due.is("told", x.listener(0, 4), 0);
    }

    private static void wholeThoughItKnowsNothing() {
        Due.sentence("14: It KNOWS nothing (but holds what it holds) behind the last TICK in which that lives");
        FileRounds x = Due.laid("f1,1,1;t20,2;");
        x.join(0);
        x.tick(2);
        x.renew(0);
        x.tick(18);
        Due.is("KNOWS", x.listener(0, 2), 0);
        Due.is("lived to", x.listener(0, 3), 1);
        Due.is("WHOLE", x.listener(0, 4), 1);
        x.tick(1);
        Due.is("another VERSION told", x.listener(0, 4), 0);
    }

    private static void whatItDidNotGet() {
        Due.sentence("14: what it did not get (5; TICKS)");
        FileRounds x = new FileRounds();
        x.tick(50);
        x.join(0);
        Due.is("what was ahead of it", x.listener(0, 5), 0);
        x.join(99);
        x.tick(20);
        int lost = x.listener(1, 5);
        Due.is("nearly all", lost >= 18 && lost <= 20 ? 1 : 0, 1);
        Due.is("none by LOSS 0", x.listener(0, 5), 0);
        x.undo();
        Due.is("undone", x.listener(1, 5), 0);
        FileRounds y = new FileRounds();
        y.join(2);
        y.tick(1);
        Due.is("TICK 0 by LOSS 2", y.listener(0, 5), 1);
    }
}
