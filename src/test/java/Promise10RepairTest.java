/** Promise 10: repair. */
public final class Promise10RepairTest {
    private static final int BAD = FileRounds.BAD;
    private static final int NO = FileRounds.NO;

    public static void main(String[] args) {
        numbersThatAreNoListener();
        numbersThatAreNoFile();
        itGotNoTable();
        upToTheLastTickOfItsLife();
        aLifeOfOneTick();
        itIsWholeOfIt();
        aRefusedOneChangesNothing();
        badAheadOfNo();
        theLowestThatItLacks();
        soManyThatItHoldsNeed();
        theGreatestFile();
        theOneAlone();
        ofTheVersionTold();
        withoutTheTableThatCameLater();
        Due.end();
    }

    private static void holdsAre(FileRounds x, int l, int f, int... want) {
        for (int what = 0; what < 3; what++) {
            String call = "holds(" + l + ", " + f + ", " + what + ") behind " + x.count(1);
            Due.is(call, x.holds(l, f, what), want[what]);
        }
    }

    private static void numbersThatAreNoListener() {
        Due.sentence("10: BAD, of LISTENERS");
        FileRounds x = new FileRounds();
        Due.is("repair(0, 0) without any", x.repair(0, 0), BAD);
        x.join(0);
        x.tick(1);
        for (int l : new int[] {-1, 1, 2, 3, 4, Integer.MIN_VALUE, Integer.MAX_VALUE}) {
            Due.is("repair(" + l + ", 0)", x.repair(l, 0), BAD);
        }
        for (int l = 1; l < 4; l++) {
            x.join(0);
        }
        x.tick(5);
        Due.is("repair(3, 0)", x.repair(3, 0), 4);
        Due.is("repair(4, 0)", x.repair(4, 0), BAD);
    }

    private static void numbersThatAreNoFile() {
        Due.sentence("10: BAD, of FILES");
        FileRounds x = new FileRounds();
        x.join(0);
        x.tick(1);
        for (int f : new int[] {-1, 3, 5, 6, Integer.MIN_VALUE, Integer.MAX_VALUE}) {
            Due.is("repair(0, " + f + ")", x.repair(0, f), BAD);
        }
        Due.is("repair(0, 2)", x.repair(0, 2), 2);
    }

    private static void itGotNoTable() {
        Due.sentence("10: NO: it KNOWS no TABLE, as it got none");
        FileRounds x = new FileRounds();
        x.join(0);
        Due.is("ahead of the first", x.repair(0, 0), NO);
        x.tick(1);
        Due.is("behind it", x.repair(0, 0), 4);
        x.join(0);
        x.tick(4);
        Due.is("who came late", x.repair(1, 0), NO);
        x.tick(1);
        Due.is("behind the next one", x.repair(1, 0), 4);
        // LISTENER 2 loses TICK 0 by a LOSS of 34.
        FileRounds y = new FileRounds();
        y.join(0);
        y.join(0);
        y.join(34);
        y.tick(1);
        Due.is("who lost it", y.repair(2, 0), NO);
    }

    private static void upToTheLastTickOfItsLife() {
        Due.sentence("10: NO: it KNOWS no TABLE (in the next TICK, ahead of what is SENT in it)");
        for (int life = 1; life <= 9; life++) {
            for (int ticks = 1; ticks <= 10; ticks++) {
                FileRounds x = Due.laid("f12,6,1;t10," + life + ";");
                x.join(0);
                x.tick(ticks);
                int held = Math.min(ticks, life) - 1;
                int due = ticks <= life - 1 ? 12 - held : NO;
                Due.is("LIFE " + life + ", next TICK " + ticks, x.repair(0, 0), due);
            }
        }
    }

    private static void aLifeOfOneTick() {
        Due.sentence("10: NO: it KNOWS no TABLE, LIFE 1");
        FileRounds x = Due.laid("f1,0,1;t3,1;");
        x.join(0);
        for (int t = 0; t < 7; t++) {
            x.tick(1);
            Due.is("behind TICK " + t, x.repair(0, 0), NO);
        }
        FileRounds y = Due.laid("f1,0,1;t3,2;");
        y.join(0);
        y.tick(1);
        Due.is("LIFE 2 behind TICK 0", y.repair(0, 0), 1);
    }

    private static void itIsWholeOfIt() {
        Due.sentence("10: NO: it is WHOLE of it");
        FileRounds x = Due.laid("f2,3,1;t6,20;");
        x.join(0);
        x.tick(3);
        holdsAre(x, 0, 0, 3, 0, 0);
        Due.is("repair(0, 0)", x.repair(0, 0), NO);
        x.tick(3);
        holdsAre(x, 0, 0, 31, 0, 0);
        Due.is("with more than NEED", x.repair(0, 0), NO);
        FileRounds y = Due.laid("f2,3,1;t6,20;");
        y.join(0);
        y.tick(2);
        Due.is("one lacks", y.repair(0, 0), 1);
        Due.is("REPAIRED once", y.repair(0, 0), NO);
    }

    private static void aRefusedOneChangesNothing() {
        Due.sentence("10: BAD; NO; nothing changes then");
        FileRounds x = Due.laid("f4,2,1;f1,0,1;t6,3;");
        FileRounds y = Due.laid("f4,2,1;f1,0,1;t6,3;");
        x.join(0);
        y.join(0);
        x.tick(2);
        y.tick(2);
        x.repair(0, 2);
        x.repair(1, 0);
        x.repair(-1, -1);
        x.tick(1);
        y.tick(1);
        Due.is("WHOLE of the other", x.repair(0, 1), NO);
        Due.is("KNOWS no more", x.repair(0, 0), NO);
        Due.alike("behind them", x, y);
    }

    private static void badAheadOfNo() {
        Due.sentence("10: Of several the first in this order");
        FileRounds x = Due.laid("f4,2,1;t6,2;");
        x.join(0);
        Due.is("FILE 1", x.repair(0, 1), BAD);
        Due.is("LISTENER 1", x.repair(1, 0), BAD);
        Due.is("neither is wrong", x.repair(0, 0), NO);
    }

    private static void theLowestThatItLacks() {
        Due.sentence("10: it holds the lowest SYMBOLS that it lacks, too");
        FileRounds x = Due.laid("f4,2,1;f2,0,1;t6,20;");
        x.tick(9);
        x.join(0);
        x.tick(5);
        Due.is("what was SENT", x.sent(0, 0) * 100 + x.sent(0, 1), 5);
        holdsAre(x, 0, 0, 32, 0, 3);
        Due.is("repair(0, 0)", x.repair(0, 0), 3);
        holdsAre(x, 0, 0, 32 | 7, 0, 0);
        Due.is("undo()", x.undo(), 3);
        holdsAre(x, 0, 0, 32, 0, 3);
        x.tick(2);
        holdsAre(x, 0, 0, 32 | 1, 0, 2);
        Due.is("with the lowest held", x.repair(0, 0), 2);
        holdsAre(x, 0, 0, 32 | 7, 0, 0);
    }

    private static void soManyThatItHoldsNeed() {
        Due.sentence("10: so many that it holds NEED: how many SYMBOLS it holds more by it");
        for (int held = 0; held < 5; held++) {
            FileRounds x = Due.laid("f5,6,1;t8,20;");
            x.join(0);
            x.tick(1 + held);
            Due.is("lacks", x.holds(0, 0, 2), 5 - held);
            Due.is("repair(0, 0) behind " + held, x.repair(0, 0), 5 - held);
            holdsAre(x, 0, 0, 31, 0, 0);
            Due.is("WHOLE", x.listener(0, 4), 1);
        }
    }

    private static void theGreatestFile() {
        Due.sentence("10: so many that it holds NEED, of 12 and 6");
        FileRounds x = Due.laid("f12,6,1;t20,99;");
        x.join(0);
        x.tick(1);
        Due.is("repair(0, 0) of all", x.repair(0, 0), 12);
        holdsAre(x, 0, 0, 4095, 0, 0);
        // Who comes behind 16 TICKS gets the TABLE in 20 and SYMBOL 1 behind it first.
        FileRounds y = Due.laid("f12,6,1;t20,99;");
        y.tick(16);
        y.join(0);
        y.tick(16);
        holdsAre(y, 0, 0, 4094, 0, 1);
        Due.is("the one it lacks", y.repair(0, 0), 1);
        holdsAre(y, 0, 0, 4095, 0, 0);
    }

    private static void theOneAlone() {
        Due.sentence("10: A FILE is REPAIRED for a LISTENER");
        FileRounds x = Due.laid("f4,2,1;f2,0,1;t6,20;");
        x.join(0);
        x.join(0);
        x.tick(1);
        Due.is("repair(1, 0)", x.repair(1, 0), 4);
        holdsAre(x, 0, 0, 0, 0, 4);
        holdsAre(x, 1, 0, 15, 0, 0);
        holdsAre(x, 1, 1, 0, 0, 2);
        Due.is("WHOLE of it alone", x.listener(1, 4), 1);
        Due.is("SENT", x.count(6), 0);
        Due.is("TICKS", x.count(1), 1);
        Due.is("changes", x.count(8), 4);
    }

    private static void ofTheVersionTold() {
        Due.sentence("10: REPAIRED, of the VERSION told");
        FileRounds x = Due.laid("f4,2,1;t6,20;");
        x.join(0);
        x.tick(2);
        x.renew(0);
        Due.is("repair(0, 0)", x.repair(0, 0), 3);
        holdsAre(x, 0, 0, 15, 0, 0);
        x.tick(4);
        Due.is("WHOLE until another is told", x.listener(0, 4), 1);
        x.tick(1);
        holdsAre(x, 0, 0, 0, 1, 4);
        Due.is("repair(0, 0) of that", x.repair(0, 0), 4);
        x.tick(6);
        holdsAre(x, 0, 0, 63, 1, 0);
    }

    private static void withoutTheTableThatCameLater() {
        Due.sentence("10: REPAIRED .. while it KNOWS a TABLE");
        FileRounds x = Due.laid("f6,0,1;f1,0,9;t10,3;");
        x.join(0);
        x.tick(3);
        Due.is("KNOWS no more", x.repair(0, 0), NO);
        x.tick(7);
        Due.is("ahead of the next TABLE", x.repair(0, 0), NO);
        x.tick(1);
        Due.is("behind it", x.repair(0, 0) > 0 ? 1 : 0, 1);
    }
}
