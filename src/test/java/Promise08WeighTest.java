/** Promise 8: weigh. */
public final class Promise08WeighTest {
    private static final int BAD = FileRounds.BAD;
    private static final int NO = FileRounds.NO;

    public static void main(String[] args) {
        numbersThatAreNoFile();
        weightsTooSmallAndTooLarge();
        oneAndNine();
        itIsSo();
        aRefusedOneChangesNothing();
        badAheadOfNo();
        whatItWas();
        creditsStay();
        sendsByTheNewOnes();
        toldAnewAndBack();
        Due.end();
    }

    private static void numbersThatAreNoFile() {
        Due.sentence("8: BAD, of FILES");
        FileRounds x = new FileRounds();
        for (int f : new int[] {-1, 3, 6, Integer.MIN_VALUE, Integer.MAX_VALUE}) {
            Due.is("weigh(" + f + ", 5)", x.weigh(f, 5), BAD);
        }
        Due.is("the last FILE", x.weigh(2, 5), 2);
    }

    private static void weightsTooSmallAndTooLarge() {
        Due.sentence("8: WEIGHT of a FILE (1 to 9), outside");
        FileRounds x = new FileRounds();
        for (int w : new int[] {0, -1, -3, 10, 11, 99, Integer.MIN_VALUE, Integer.MAX_VALUE}) {
            Due.is("weigh(0, " + w + ")", x.weigh(0, w), BAD);
        }
        Due.is("WEIGHT", x.file(0, 2), 3);
    }

    private static void oneAndNine() {
        Due.sentence("8: WEIGHT of a FILE (1 to 9)");
        FileRounds x = new FileRounds();
        int before = 3;
        for (int w : new int[] {1, 9, 2, 8, 4, 5, 6, 7}) {
            Due.is("weigh(0, " + w + ")", x.weigh(0, w), before);
            Due.is("WEIGHT", x.file(0, 2), w);
            Due.is("WEIGHTS together", x.count(7), 3 + w);
            before = w;
        }
    }

    private static void itIsSo() {
        Due.sentence("8: NO: it is so");
        FileRounds x = new FileRounds();
        Due.is("weigh(0, 3)", x.weigh(0, 3), NO);
        Due.is("weigh(1, 1)", x.weigh(1, 1), NO);
        Due.is("weigh(2, 2)", x.weigh(2, 2), NO);
        Due.is("changes", x.count(8), 0);
        x.weigh(1, 9);
        Due.is("weigh(1, 9) again", x.weigh(1, 9), NO);
        x.undo();
        Due.is("weigh(1, 1), undone", x.weigh(1, 1), NO);
        Due.is("weigh(1, 9), undone", x.weigh(1, 9), 1);
    }

    private static void aRefusedOneChangesNothing() {
        Due.sentence("8: BAD; NO; nothing changes then");
        FileRounds x = new FileRounds();
        FileRounds y = new FileRounds();
        x.tick(3);
        y.tick(3);
        x.weigh(0, 3);
        x.weigh(0, 0);
        x.weigh(0, 10);
        x.weigh(3, 5);
        x.weigh(-1, 5);
        Due.alike("behind them", x, y);
    }

    private static void badAheadOfNo() {
        Due.sentence("8: Of several the first in this order");
        FileRounds x = new FileRounds();
        Due.is("weigh(3, 0)", x.weigh(3, 0), BAD);
        // Without a FILE 3 its WEIGHT would be 0 or that of another.
        Due.is("weigh(3, 3)", x.weigh(3, 3), BAD);
        Due.is("weigh(-1, 3)", x.weigh(-1, 3), BAD);
    }

    private static void whatItWas() {
        Due.sentence("8: what it was");
        FileRounds x = Due.laid("f1,0,9;f1,0,1;");
        Due.is("weigh(0, 1)", x.weigh(0, 1), 9);
        Due.is("weigh(1, 9)", x.weigh(1, 9), 1);
        Due.is("weigh(0, 9)", x.weigh(0, 9), 1);
        Due.is("WEIGHTS together", x.count(7), 18);
    }

    private static void creditsAre(FileRounds x, int... want) {
        for (int f = 0; f < want.length; f++) {
            Due.is("CREDIT of " + f + " behind " + x.count(1), x.file(f, 5), 1000 + want[f]);
        }
    }

    private static void creditsStay() {
        Due.sentence("8: (CREDITS stay)");
        FileRounds x = new FileRounds();
        x.tick(3);
        creditsAre(x, 0, 2, -2);
        x.weigh(1, 9);
        creditsAre(x, 0, 2, -2);
        x.weigh(0, 1);
        creditsAre(x, 0, 2, -2);
    }

    private static void sendsByTheNewOnes() {
        Due.sentence("8: CREDIT of each FILE is more by its WEIGHT .. less by all WEIGHTS together");
        FileRounds x = new FileRounds();
        x.tick(3);
        x.weigh(1, 9);
        x.tick(1);
        Due.is("it sends", x.sent(0, 0), 1);
        creditsAre(x, 3, -3, 0);
        x.weigh(2, 9);
        x.tick(1);
        Due.is("the third sends", x.sent(0, 0), 2);
        creditsAre(x, 6, 6, -12);
    }

    private static void toldAnewAndBack() {
        Due.sentence("8: WEIGHT told anew");
        FileRounds x = Due.laid("f1,0,4;f1,0,4;t20,9;");
        Due.is("weigh(0, 5)", x.weigh(0, 5), 4);
        Due.is("weigh(0, 4)", x.weigh(0, 4), 5);
        Due.is("changes", x.count(8), 2);
        x.tick(3);
        Due.is("the second's turn", x.sent(0, 0), 1);
        Due.is("lay() tells the first ones", x.weigh(0, 1) == 4 && x.lay() == 2 ? x.file(0, 2) : 0, 4);
    }
}
