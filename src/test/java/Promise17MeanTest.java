/** Promise 17: mean. */
public final class Promise17MeanTest {
    private static final int NONE = FileRounds.NONE;
    private static final int BAD = FileRounds.BAD;
    // WAITS behind 0, 1, 2, 3 .. 39 TICKS are 362, none (401), 400, 399 .. 363.
    private static final String SLOW = "f10,6,1;f1,0,1;t20,2;";

    public static void main(String[] args) {
        numbersThatAreNoFile();
        tooFewAndTooMany();
        numbersThatAreNotAsked();
        badAheadOfNone();
        ofOneAlone();
        ofForty();
        noneIfOneIsNone();
        noneIfAllAreNone();
        cutToAWholeNumber();
        asFloats();
        theGreatest();
        asItStandsThen();
        changesNothing();
        behindTheLastTick();
        Due.end();
    }

    private static void numbersThatAreNoFile() {
        Due.sentence("17: BAD, of FILES");
        FileRounds x = new FileRounds();
        for (int f : new int[] {-1, 3, 5, 6, Integer.MIN_VALUE, Integer.MAX_VALUE}) {
            for (int what = 0; what < 3; what++) {
                Due.is("mean(" + f + ", 1, " + what + ")", x.mean(f, 1, what), BAD);
            }
        }
        Due.is("mean(2, 1, 1)", x.mean(2, 1, 1), 7);
    }

    private static void tooFewAndTooMany() {
        Due.sentence("17: MEAN of a FILE for n (1 to 40), outside");
        FileRounds x = new FileRounds();
        for (int n : new int[] {0, -1, 41, 42, 100, Integer.MIN_VALUE, Integer.MAX_VALUE}) {
            for (int what = 0; what < 3; what++) {
                Due.is("mean(0, " + n + ", " + what + ")", x.mean(0, n, what), BAD);
            }
        }
    }

    private static void numbersThatAreNotAsked() {
        Due.sentence("17: BAD, of what");
        FileRounds x = new FileRounds();
        for (int what : new int[] {-1, 3, 4, Integer.MIN_VALUE, Integer.MAX_VALUE}) {
            Due.is("mean(0, 1, " + what + ")", x.mean(0, 1, what), BAD);
        }
    }

    private static void badAheadOfNone() {
        Due.sentence("17: Of several the first in this order");
        FileRounds x = Due.laid("f1,0,1;t3,1;");
        Due.is("mean(0, 1, 3)", x.mean(0, 1, 3), BAD);
        Due.is("mean(0, 1, -1)", x.mean(0, 1, -1), BAD);
        Due.is("mean(0, 41, 0)", x.mean(0, 41, 0), BAD);
        Due.is("mean(1, 1, 0)", x.mean(1, 1, 0), BAD);
        Due.is("mean(0, 1, 0)", x.mean(0, 1, 0), NONE);
    }

    private static void ofOneAlone() {
        Due.sentence("17: n (1 to 40), of 1");
        FileRounds x = new FileRounds();
        Due.is("mean(0, 1, 0)", x.mean(0, 1, 0), Float.floatToIntBits(9f));
        Due.is("mean(0, 1, 1)", x.mean(0, 1, 1), 9);
        Due.is("mean(0, 1, 2)", x.mean(0, 1, 2), 9);
    }

    private static void ofForty() {
        Due.sentence("17: n (1 to 40), of 40; WAITS behind 0, 1, .. n less 1 TICKS");
        FileRounds x = Due.laid("f1,0,1;t3,99;");
        // 2, 4, 3, 2, 4, 3, .., 2: 13 times 9 and 2 more.
        Due.is("mean(0, 40, 0)", x.mean(0, 40, 0), Float.floatToIntBits(119f / 40f));
        Due.is("mean(0, 40, 1)", x.mean(0, 40, 1), 2);
        Due.is("mean(0, 40, 2)", x.mean(0, 40, 2), 4);
        Due.is("mean(0, 39, 0)", x.mean(0, 39, 0), Float.floatToIntBits(3f));
        Due.is("mean(0, 2, 0)", x.mean(0, 2, 0), Float.floatToIntBits(3f));
    }

    private static void noneIfOneIsNone() {
        Due.sentence("17: (none, if one is none)");
        FileRounds x = Due.laid(SLOW);
        for (int what = 0; what < 3; what++) {
            Due.is("of 362 alone, " + what, x.mean(0, 1, what), what == 0 ? Float.floatToIntBits(362f) : 362);
            Due.is("with the none behind it, " + what, x.mean(0, 2, what), NONE);
            Due.is("with others, too, " + what, x.mean(0, 40, what), NONE);
        }
        x.tick(2);
        for (int what = 0; what < 3; what++) {
            int due = what == 0 ? Float.floatToIntBits(381f) : what == 1 ? 381 : 400;
            Due.is("400, 399, .., 362, " + what, x.mean(0, 39, what), due);
            Due.is("and the none behind them, " + what, x.mean(0, 40, what), NONE);
            int first = what == 0 ? Float.floatToIntBits(400f) : 400;
            Due.is("of 400 alone, " + what, x.mean(0, 1, what), first);
        }
    }

    private static void noneIfAllAreNone() {
        Due.sentence("17: NONE");
        FileRounds x = Due.laid("f1,0,1;f1,0,1;t3,1;");
        for (int n : new int[] {1, 2, 40}) {
            for (int what = 0; what < 3; what++) {
                Due.is("mean(0, " + n + ", " + what + ")", x.mean(0, n, what), NONE);
            }
        }
    }

    private static void cutToAWholeNumber() {
        Due.sentence("17: cut to a whole number (1)");
        FileRounds x = Due.laid("f1,0,1;t3,99;");
        x.tick(1);
        Due.is("of 4", x.mean(0, 1, 1), 4);
        Due.is("of 3.5", x.mean(0, 2, 1), 3);
        Due.is("of 3", x.mean(0, 3, 1), 3);
        Due.is("of 3.25", x.mean(0, 4, 1), 3);
        x.tick(1);
        Due.is("of 2.5", x.mean(0, 2, 1), 2);
        Due.is("its bits", x.mean(0, 2, 0), Float.floatToIntBits(2.5f));
        x.tick(1);
        Due.is("of 2.75", x.mean(0, 4, 1), 2);
        Due.is("its bits", x.mean(0, 4, 0), Float.floatToIntBits(2.75f));
    }

    private static void asFloats() {
        Due.sentence("17: together as a float by n as a float, as a float; as by Float.floatToIntBits");
        FileRounds x = new FileRounds();
        x.tick(3);
        x.weigh(1, 4);
        x.renew(0);
        for (int f = 0; f < 3; f++) {
            int sum = 0;
            for (int n = 1; n <= 40; n++) {
                sum += x.waits(f, n - 1);
                float mean = (float) sum / (float) n;
                Due.is("mean(" + f + ", " + n + ", 0)", x.mean(f, n, 0), Float.floatToIntBits(mean));
                Due.is("mean(" + f + ", " + n + ", 1)", x.mean(f, n, 1), (int) mean);
            }
        }
    }

    private static void theGreatest() {
        Due.sentence("17: the greatest of these WAITS (2)");
        FileRounds x = new FileRounds();
        int[] due = {9, 14, 14, 14, 14, 14, 14, 14, 14, 14};
        for (int n = 1; n <= 10; n++) {
            Due.is("mean(0, " + n + ", 2)", x.mean(0, n, 2), due[n - 1]);
        }
        int most = 0;
        for (int n = 1; n <= 40; n++) {
            most = Math.max(most, x.waits(1, n - 1));
            Due.is("mean(1, " + n + ", 2)", x.mean(1, n, 2), most);
        }
        FileRounds y = Due.laid("f1,0,1;t3,99;");
        Due.is("the first is not", y.mean(0, 2, 2), 4);
        Due.is("the last is not", y.mean(0, 3, 2), 4);
    }

    private static void asItStandsThen() {
        Due.sentence("17: All that is asked is told of all as it stands then");
        FileRounds x = Due.laid("f1,0,1;t3,99;");
        x.tick(1);
        Due.is("waits(0, 99) ahead of it", x.waits(0, 99), 4);
        x.tick(1);
        Due.is("mean(0, 1, 2)", x.mean(0, 1, 2), 3);
        x.undo();
        Due.is("mean(0, 1, 2), undone", x.mean(0, 1, 2), 4);
        FileRounds y = Due.laid("f2,0,1;f2,0,1;t20,20;");
        Due.is("mean(1, 1, 1)", y.mean(1, 1, 1), 5);
        y.weigh(1, 9);
        Due.is("of WEIGHT 9", y.mean(1, 1, 1), 3);
    }

    private static void changesNothing() {
        Due.sentence("17: MEAN, nothing is SENT by it");
        FileRounds x = new FileRounds();
        FileRounds y = new FileRounds();
        x.tick(3);
        y.tick(3);
        for (int n = 1; n <= 40; n++) {
            x.mean(n % 3, n, n % 3);
        }
        Due.alike("behind them", x, y);
    }

    private static void behindTheLastTick() {
        Due.sentence("17: all goes on, behind TICK 9999, too");
        FileRounds x = Due.laid("f1,0,1;t3,99;");
        for (int i = 0; i < 101; i++) {
            x.tick(99);
        }
        Due.is("mean(0, 40, 2)", x.mean(0, 40, 2), 4);
        Due.is("mean(0, 3, 0)", x.mean(0, 3, 0), Float.floatToIntBits(3f));
    }
}
