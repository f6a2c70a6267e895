/** Promise 16: waits. */
public final class Promise16WaitsTest {
    private static final int NONE = FileRounds.NONE;
    private static final int BAD = FileRounds.BAD;
    // Only the SYMBOL right behind a TABLE counts; that of every second one is of FILE 0, another one each time.
    private static final String SLOW = "f10,6,1;f1,0,1;t20,2;";

    public static void main(String[] args) {
        numbersThatAreNoFile();
        ticksTooFewAndTooMany();
        badAheadOfNone();
        theShortest();
        from0To99();
        fourHundredAtMost();
        neverWhole();
        asOneWhoListens();
        asItStandsNow();
        nothingIsRenewed();
        othersDoNotMatter();
        changesNothing();
        behindTheLastTick();
        Due.end();
    }

    private static void numbersThatAreNoFile() {
        Due.sentence("16: BAD, of FILES");
        FileRounds x = new FileRounds();
        for (int f : new int[] {-1, 3, 5, 6, Integer.MIN_VALUE, Integer.MAX_VALUE}) {
            Due.is("waits(" + f + ", 0)", x.waits(f, 0), BAD);
        }
        Due.is("waits(2, 0)", x.waits(2, 0), 7);
    }

    private static void ticksTooFewAndTooMany() {
        Due.sentence("16: behind b TICKS (0 to 99), outside");
        FileRounds x = new FileRounds();
        for (int b : new int[] {-1, -100, 100, 101, 400, Integer.MIN_VALUE, Integer.MAX_VALUE}) {
            Due.is("waits(0, " + b + ")", x.waits(0, b), BAD);
        }
    }

    private static void badAheadOfNone() {
        Due.sentence("16: Of several the first in this order");
        FileRounds x = Due.laid("f1,0,1;t3,1;");
        Due.is("waits(0, 100)", x.waits(0, 100), BAD);
        Due.is("waits(1, 0)", x.waits(1, 0), BAD);
        Due.is("waits(0, 99)", x.waits(0, 99), NONE);
    }

    private static void theShortest() {
        Due.sentence("16: TICKS from then on until it is WHOLE of it (1 at least");
        FileRounds x = Due.laid("f1,0,1;t3,2;");
        // One for the TABLE, and one for the SYMBOL behind it.
        Due.is("waits(0, 0)", x.waits(0, 0), 2);
        Due.is("waits(0, 3)", x.waits(0, 3), 2);
        x.tick(3);
        Due.is("waits(0, 0) behind 3", x.waits(0, 0), 2);
    }

    private static void from0To99() {
        Due.sentence("16: WAIT of a FILE behind b TICKS (0 to 99)");
        FileRounds x = Due.laid("f1,0,1;t3,99;");
        int[] due = {2, 4, 3};
        for (int b = 0; b < 100; b++) {
            Due.is("waits(0, " + b + ")", x.waits(0, b), due[b % 3]);
        }
        x.tick(1);
        for (int b = 0; b < 100; b++) {
            Due.is("waits(0, " + b + ") behind 1", x.waits(0, b), due[(b + 1) % 3]);
        }
    }

    private static void fourHundredAtMost() {
        Due.sentence("16: 400 at most, none else");
        FileRounds x = Due.laid(SLOW);
        // TABLES in 0, 40, .. count, and the tenth is 360 behind the first.
        Due.is("waits(0, 0)", x.waits(0, 0), 362);
        Due.is("waits(0, 1), 401", x.waits(0, 1), NONE);
        Due.is("waits(0, 2)", x.waits(0, 2), 400);
        Due.is("waits(0, 3)", x.waits(0, 3), 399);
        Due.is("waits(0, 40)", x.waits(0, 40), 362);
        Due.is("waits(0, 41), 401", x.waits(0, 41), NONE);
        Due.is("waits(0, 42)", x.waits(0, 42), 400);
        Due.is("waits(0, 81), 401", x.waits(0, 81), NONE);
        Due.is("waits(0, 82)", x.waits(0, 82), 400);
        Due.is("waits(0, 99)", x.waits(0, 99), 383);
        x.tick(3);
        Due.is("waits(0, 79) behind 3", x.waits(0, 79), 400);
        Due.is("waits(0, 78) behind 3", x.waits(0, 78), NONE);
        FileRounds y = Due.laid(SLOW);
        y.tick(23);
        Due.is("waits(0, 99) of 400", y.waits(0, 99), 400);
        y.undo();
        y.tick(22);
        Due.is("waits(0, 99) of 401", y.waits(0, 99), NONE);
        FileRounds z = Due.laid("f11,5,1;f1,0,1;t20,2;");
        Due.is("402", z.waits(0, 0), NONE);
    }

    private static void neverWhole() {
        Due.sentence("16: NONE");
        FileRounds x = Due.laid("f1,0,1;f1,0,1;t3,1;");
        for (int b = 0; b < 100; b += 9) {
            Due.is("waits(0, " + b + ")", x.waits(0, b), NONE);
        }
        // Only the SYMBOL right behind a TABLE counts, and that is always one of FILE 0.
        FileRounds y = Due.laid("f2,1,1;f1,0,1;t3,2;");
        Due.is("FILE 0", y.waits(0, 0), 5);
        Due.is("FILE 1", y.waits(1, 0), NONE);
        // And here it is always SYMBOL 0.
        FileRounds z = Due.laid("f2,0,1;t3,2;");
        Due.is("one of two", z.waits(0, 0), NONE);
    }

    /**
     * What one who really comes waits (up to 450), seen in another object with the same text: in great
     * steps first, the last of which is undone and gone again TICK by TICK, to keep the calls few.
     */
    private static int waited(FileRounds like, String text, int f, int b) {
        FileRounds y = Due.laid(text);
        for (int i = like.count(1) + b; i > 0; i -= 99) {
            y.tick(Math.min(i, 99));
        }
        int came = y.count(1);
        y.join(0);
        int step = 25;
        while (y.count(1) - came < 450) {
            y.tick(step);
            if ((y.listener(0, 4) >> f & 1) == 1) {
                if (step == 1) {
                    return y.count(1) - came;
                }
                y.undo();
                step = 1;
            }
        }
        return NONE;
    }

    private static void asOneWhoListens() {
        Due.sentence("16: one who came then (no LOSS; all goes on as it stands now)");
        String[] texts = {
            "f4,2,3;f6,0,1;f2,1,2;t5,12;", "f3,3,2;f5,1,5;t7,3;", "f12,6,9;f1,6,1;t20,20;", "f2,0,1;f2,0,1;f2,0,1;t4,2;"};
        for (String text : texts) {
            FileRounds x = Due.laid(text);
            x.tick(23);
            for (int f = 0; f < x.count(0); f++) {
                for (int b = 0; b < 100; b += 11) {
                    Due.is(text + " waits(" + f + ", " + b + ")", x.waits(f, b), waited(x, text, f, b));
                }
            }
        }
        String text = "f8,0,1;f1,0,9;f1,0,9;f1,0,9;f1,0,6;t3,21;";
        FileRounds x = Due.laid(text);
        for (int b = 0; b < 100; b++) {
            int due = waited(x, text, 0, b);
            Due.is("waits(0, " + b + ")", x.waits(0, b), due <= 400 ? due : NONE);
        }
    }

    private static void asItStandsNow() {
        Due.sentence("16: all goes on as it stands now");
        FileRounds x = Due.laid("f2,0,1;f2,0,1;t20,20;");
        Due.is("waits(1, 0)", x.waits(1, 0), 5);
        x.weigh(1, 9);
        Due.is("of WEIGHT 9", x.waits(1, 0), 3);
        // FILE 0 sends where it has 5, as FILE 1 has: in TICKS 5 and 15.
        Due.is("the other one", x.waits(0, 0), 16);
        x.undo();
        Due.is("undone", x.waits(1, 0), 5);
        x.tick(1);
        // Behind the TABLE in 20 it sends in TICKS 22 and 24.
        Due.is("behind a TICK", x.waits(0, 0), 24);
    }

    private static void nothingIsRenewed() {
        Due.sentence("16: nothing is RENEWED");
        FileRounds x = Due.laid("f3,2,1;t6,20;");
        x.tick(3);
        x.renew(0);
        Due.is("a new VERSION is told by the TABLE", x.waits(0, 0), 7);
        Due.is("behind 3", x.waits(0, 3), 4);
        // RENEWED right ahead of the TABLE, the FILE sends SYMBOLS 0, 1, 2 behind it.
        x.tick(3);
        x.renew(0);
        Due.is("behind the other", x.waits(0, 0), 4);
    }

    private static void othersDoNotMatter() {
        Due.sentence("16: one who came then (no LOSS");
        FileRounds x = new FileRounds();
        FileRounds y = new FileRounds();
        for (int l = 0; l < 4; l++) {
            x.join(99 - l);
        }
        x.tick(7);
        y.tick(7);
        for (int f = 0; f < 3; f++) {
            for (int b = 0; b < 100; b += 9) {
                Due.is("waits(" + f + ", " + b + ")", x.waits(f, b), y.waits(f, b));
            }
        }
    }

    private static void changesNothing() {
        Due.sentence("16: All that is asked is told of all as it stands then");
        FileRounds x = new FileRounds();
        FileRounds y = new FileRounds();
        x.join(0);
        y.join(0);
        x.tick(13);
        y.tick(13);
        for (int b = 0; b < 100; b += 3) {
            x.waits(b % 3, b);
            x.waits(0, b);
        }
        Due.alike("behind them", x, y);
    }

    private static void behindTheLastTick() {
        Due.sentence("16: all goes on, behind TICK 9999, too");
        FileRounds x = Due.laid("f1,0,1;t3,99;");
        for (int i = 0; i < 101; i++) {
            x.tick(99);
        }
        Due.is("TICKS", x.count(1), 9999);
        Due.is("waits(0, 0)", x.waits(0, 0), 2);
        Due.is("waits(0, 1)", x.waits(0, 1), 4);
        Due.is("waits(0, 99)", x.waits(0, 99), 2);
    }
}
