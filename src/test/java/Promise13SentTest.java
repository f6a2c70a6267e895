/** Promise 13: sent. */
public final class Promise13SentTest {
    private static final int NONE = FileRounds.NONE;
    private static final int BAD = FileRounds.BAD;

    public static void main(String[] args) {
        placesTooSmallAndTooLarge();
        numbersThatAreNotAsked();
        notSoManyWere();
        badAheadOfNone();
        aTable();
        lastButK();
        theVersionThatWasSent();
        behindUndo();
        behindLay();
        overTheEndOfTheTen();
        Due.end();
    }

    private static void placesTooSmallAndTooLarge() {
        Due.sentence("13: last but k (k 0 to 9), outside");
        FileRounds x = new FileRounds();
        x.tick(30);
        for (int k : new int[] {-1, -10, 10, 11, 29, 30, Integer.MIN_VALUE, Integer.MAX_VALUE}) {
            for (int what = 0; what < 4; what++) {
                Due.is("sent(" + k + ", " + what + ")", x.sent(k, what), BAD);
            }
        }
        Due.is("sent(9, 3)", x.sent(9, 3), 20);
        Due.is("sent(0, 3)", x.sent(0, 3), 29);
    }

    private static void numbersThatAreNotAsked() {
        Due.sentence("13: BAD, of what");
        FileRounds x = new FileRounds();
        x.tick(3);
        for (int what : new int[] {-1, 4, 5, Integer.MIN_VALUE, Integer.MAX_VALUE}) {
            Due.is("sent(0, " + what + ")", x.sent(0, what), BAD);
        }
    }

    private static void notSoManyWere() {
        Due.sentence("13: NONE: not so many were");
        FileRounds x = new FileRounds();
        for (int t = 0; t < 12; t++) {
            for (int k = 0; k < 10; k++) {
                Due.is("sent(" + k + ", 3) behind " + t, x.sent(k, 3), k < t ? t - 1 - k : NONE);
                if (k >= t) {
                    Due.is("sent(" + k + ", 0) behind " + t, x.sent(k, 0), NONE);
                    Due.is("sent(" + k + ", 2) behind " + t, x.sent(k, 2), NONE);
                }
            }
            x.tick(1);
        }
    }

    private static void badAheadOfNone() {
        Due.sentence("13: Of several the first in this order");
        FileRounds x = new FileRounds();
        Due.is("sent(0, 4)", x.sent(0, 4), BAD);
        Due.is("sent(0, -1)", x.sent(0, -1), BAD);
        Due.is("sent(10, 0)", x.sent(10, 0), BAD);
        Due.is("sent(-1, 0)", x.sent(-1, 0), BAD);
        Due.is("sent(0, 0)", x.sent(0, 0), NONE);
        x.tick(1);
        Due.is("of a TABLE", x.sent(0, 4), BAD);
    }

    private static void aTable() {
        Due.sentence("13: the FILE (what = 0; NONE: a TABLE), SYMBOL (1; NONE: a TABLE), VERSION (2; NONE: a TABLE)");
        FileRounds x = new FileRounds();
        x.tick(6);
        for (int k : new int[] {0, 5}) {
            for (int what = 0; what < 3; what++) {
                Due.is("sent(" + k + ", " + what + ")", x.sent(k, what), NONE);
            }
            Due.is("its TICK", x.sent(k, 3), 5 - k);
        }
    }

    private static void lastButK() {
        Due.sentence("13: Of what was SENT last but k");
        FileRounds x = new FileRounds();
        x.tick(10);
        int[] files = {NONE, 0, 2, 0, 1, NONE, 2, 0, 0, 2};
        int[] symbols = {NONE, 0, 0, 1, 0, NONE, 1, 2, 3, 2};
        for (int k = 0; k < 10; k++) {
            int t = 9 - k;
            Due.is("sent(" + k + ", 0)", x.sent(k, 0), files[t]);
            Due.is("sent(" + k + ", 1)", x.sent(k, 1), symbols[t]);
            Due.is("sent(" + k + ", 2)", x.sent(k, 2), files[t] == NONE ? NONE : 0);
            Due.is("sent(" + k + ", 3)", x.sent(k, 3), t);
        }
    }

    private static void theVersionThatWasSent() {
        Due.sentence("13: VERSION (2)");
        FileRounds x = Due.laid("f4,0,1;t20,5;");
        x.tick(2);
        x.renew(0);
        x.tick(1);
        for (int i = 0; i < 98; i++) {
            x.renew(0);
        }
        x.tick(1);
        x.renew(0);
        x.tick(1);
        int[] due = {0, 99, 1, 0};
        for (int k = 0; k < 4; k++) {
            Due.is("sent(" + k + ", 2)", x.sent(k, 2), due[k]);
            Due.is("sent(" + k + ", 1)", x.sent(k, 1), 0);
        }
        x.renew(0);
        Due.is("RENEWED behind it", x.sent(0, 2), 0);
    }

    private static void behindUndo() {
        Due.sentence("13: what was SENT, of TICKS undone");
        FileRounds x = new FileRounds();
        x.tick(12);
        String[] before = new String[10];
        for (int k = 0; k < 10; k++) {
            before[k] = row(x, k);
        }
        x.tick(37);
        x.undo();
        for (int k = 0; k < 10; k++) {
            Due.is("row " + k + " as before", row(x, k).equals(before[k]) ? 1 : 0, 1);
        }
        x.undo();
        Due.is("nothing was", x.sent(0, 3), NONE);
    }

    private static String row(FileRounds x, int k) {
        return x.sent(k, 0) + " " + x.sent(k, 1) + " " + x.sent(k, 2) + " " + x.sent(k, 3);
    }

    private static void behindLay() {
        Due.sentence("13: LAID: nothing was SENT");
        FileRounds x = new FileRounds();
        x.tick(40);
        Due.write(x, "f1,0,1;t3,5;");
        x.lay();
        for (int k = 0; k < 10; k++) {
            Due.is("sent(" + k + ", 3)", x.sent(k, 3), NONE);
        }
        x.tick(2);
        Due.is("sent(1, 0)", x.sent(1, 0), NONE);
        Due.is("sent(1, 3)", x.sent(1, 3), 0);
        Due.is("sent(2, 0)", x.sent(2, 0), NONE);
        Due.is("sent(2, 3)", x.sent(2, 3), NONE);
    }

    private static void overTheEndOfTheTen() {
        Due.sentence("13: last but k, far on");
        FileRounds x = Due.laid("f12,6,1;t13,5;");
        for (int i = 0; i < 101; i++) {
            x.tick(99);
        }
        for (int k = 0; k < 10; k++) {
            int t = 9998 - k;
            int symbolsAhead = t - (t / 13 + 1);
            boolean table = t % 13 == 0;
            Due.is("TICK of " + k, x.sent(k, 3), t);
            Due.is("FILE of " + k, x.sent(k, 0), table ? NONE : 0);
            Due.is("SYMBOL of " + k, x.sent(k, 1), table ? NONE : symbolsAhead % 18);
        }
    }
}
