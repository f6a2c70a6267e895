import java.math.BigInteger;

/** Promise 9: join. */
public final class Promise09JoinTest {
    private static final int NONE = FileRounds.NONE;
    private static final int BAD = FileRounds.BAD;
    private static final int FULL = FileRounds.FULL;

    public static void main(String[] args) {
        lossesTooSmallAndTooLarge();
        noLossAndTheGreatest();
        oneBehindTheOther();
        fourAtMost();
        aRefusedOneChangesNothing();
        badAheadOfFull();
        theyStay();
        fromThenOn();
        belowItsLossAlone();
        withoutLossAll();
        lossByTheRuleToTheEnd();
        anewBehindUndo();
        anewBehindLay();
        Due.end();
    }

    private static void lossesTooSmallAndTooLarge() {
        Due.sentence("9: LOSS P (0 to 99), outside");
        FileRounds x = new FileRounds();
        for (int p : new int[] {-1, -99, 100, 101, Integer.MIN_VALUE, Integer.MAX_VALUE}) {
            Due.is("join(" + p + ")", x.join(p), BAD);
        }
        Due.is("LISTENERS", x.count(4), 0);
        Due.is("changes", x.count(8), 0);
    }

    private static void noLossAndTheGreatest() {
        Due.sentence("9: LOSS P (0 to 99)");
        FileRounds x = new FileRounds();
        int[] losses = {0, 99, 1, 98};
        for (int l = 0; l < 4; l++) {
            Due.is("join(" + losses[l] + ")", x.join(losses[l]), l);
            Due.is("LOSS", x.listener(l, 0), losses[l]);
        }
    }

    private static void oneBehindTheOther() {
        Due.sentence("9: LISTENERS 0, 1, .. come one behind the other: its number");
        FileRounds x = new FileRounds();
        for (int l = 0; l < 4; l++) {
            Due.is("join(" + 7 * l + ")", x.join(7 * l), l);
            Due.is("LISTENERS", x.count(4), l + 1);
            Due.is("the next one is none", x.listener(l + 1, 0), BAD);
            x.tick(3);
        }
        for (int l = 0; l < 4; l++) {
            Due.is("LOSS of " + l, x.listener(l, 0), 7 * l);
            Due.is(l + " came", x.listener(l, 1), 3 * l);
        }
    }

    private static FileRounds withFour() {
        FileRounds x = new FileRounds();
        for (int l = 0; l < 4; l++) {
            x.join(l);
        }
        x.tick(6);
        return x;
    }

    private static void fourAtMost() {
        Due.sentence("9: FULL; (4 at most; they stay)");
        FileRounds x = withFour();
        Due.is("a fifth", x.join(0), FULL);
        Due.is("with LOSS 99", x.join(99), FULL);
        Due.is("LISTENERS", x.count(4), 4);
        Due.is("listener(4, 0)", x.listener(4, 0), BAD);
        Due.is("undo() of TICKS", x.undo(), 3);
        Due.is("FULL still", x.join(0), FULL);
        Due.is("undo() of the fourth", x.undo(), 2);
        Due.is("room then", x.join(8), 3);
        Due.is("FULL again", x.join(0), FULL);
    }

    private static void aRefusedOneChangesNothing() {
        Due.sentence("9: BAD; FULL; nothing changes then");
        FileRounds x = withFour();
        x.join(50);
        x.join(100);
        x.join(-1);
        Due.alike("behind them", x, withFour());
    }

    private static void badAheadOfFull() {
        Due.sentence("9: Of several the first in this order");
        FileRounds x = withFour();
        Due.is("join(100)", x.join(100), BAD);
        Due.is("join(-1)", x.join(-1), BAD);
        Due.is("join(0)", x.join(0), FULL);
    }

    private static void theyStay() {
        Due.sentence("9: (4 at most; they stay)");
        FileRounds x = withFour();
        for (int i = 0; i < 60; i++) {
            x.tick(99);
        }
        Due.is("LISTENERS", x.count(4), 4);
        Due.is("LOSS of the last", x.listener(3, 0), 3);
        Due.is("when the first came", x.listener(0, 1), 0);
    }

    private static void fromThenOn() {
        Due.sentence("9: get what is SENT from then on");
        FileRounds x = Due.laid("f4,0,1;t5,9;");
        x.tick(1);
        x.join(0);
        x.tick(4);
        Due.is("the TABLE in 0 did not come", x.listener(0, 3), NONE);
        Due.is("holds", x.holds(0, 0, 0), 0);
        Due.is("what it did not get", x.listener(0, 5), 0);
        x.join(0);
        x.tick(1);
        Due.is("the TABLE in 5 came", x.listener(0, 3), 13);
        Due.is("to one who came right ahead of it", x.listener(1, 3), 13);
    }

    private static void belowItsLossAlone() {
        Due.sentence("9: if ((x times x) modulo 65521) modulo 100 is below P");
        // In TICK 0 x is 1, 7920, 15839 and 23758; that makes 1, 3, 33 and 70.
        int[] edge = {1, 3, 33, 70};
        FileRounds x = new FileRounds();
        FileRounds y = new FileRounds();
        for (int l = 0; l < 4; l++) {
            x.join(edge[l]);
            y.join(edge[l] + 1);
        }
        x.tick(1);
        y.tick(1);
        for (int l = 0; l < 4; l++) {
            Due.is(l + " by LOSS " + edge[l] + " lost", x.listener(l, 5), 0);
            Due.is(l + " by it KNOWS", x.listener(l, 2), 1);
            Due.is(l + " by one more lost", y.listener(l, 5), 1);
            Due.is(l + " by one more KNOWS", y.listener(l, 2), 0);
        }
    }

    private static void withoutLossAll() {
        Due.sentence("9: LOSS P, of 0");
        FileRounds x = new FileRounds();
        for (int l = 0; l < 4; l++) {
            x.join(0);
        }
        for (int i = 0; i < 101; i++) {
            x.tick(99);
        }
        for (int l = 0; l < 4; l++) {
            Due.is("lost by " + l, x.listener(l, 5), 0);
        }
    }

    private static boolean loses(int l, int t, int p) {
        BigInteger x = BigInteger.valueOf(7919L * l + 3571L * t + 1);
        return x.multiply(x).mod(BigInteger.valueOf(65521)).mod(BigInteger.valueOf(100)).intValue() < p;
    }

    private static void lossByTheRuleToTheEnd() {
        Due.sentence("9: x being 7919 times its number, 3571 t and 1 together");
        FileRounds x = new FileRounds();
        int[] losses = {1, 99, 50, 7};
        int[] missed = new int[4];
        for (int p : losses) {
            x.join(p);
        }
        for (int t = 0; t < 9999; t += 99) {
            x.tick(99);
            for (int l = 0; l < 4; l++) {
                for (int k = 0; k < 99; k++) {
                    missed[l] += loses(l, t + k, losses[l]) ? 1 : 0;
                }
            }
            int l = t / 99 % 4;
            Due.is("missed by " + l + " behind " + (t + 99), x.listener(l, 5), missed[l]);
        }
        FileRounds y = new FileRounds();
        y.join(31);
        y.join(32);
        int[] lost = new int[2];
        for (int t = 0; t < 80; t++) {
            y.tick(1);
            for (int l = 0; l < 2; l++) {
                lost[l] += loses(l, t, 31 + l) ? 1 : 0;
                Due.is("missed by " + l + " behind TICK " + t, y.listener(l, 5), lost[l]);
            }
        }
    }

    private static void anewBehindUndo() {
        Due.sentence("9: A LISTENER comes, anew behind undo");
        FileRounds x = new FileRounds();
        x.join(50);
        x.tick(30);
        x.undo();
        x.undo();
        x.tick(31);
        Due.is("join(3)", x.join(3), 0);
        int[] due = {3, 31, 0, NONE, 0, 0};
        for (int what = 0; what < 6; what++) {
            Due.is("listener(0, " + what + ")", x.listener(0, what), due[what]);
        }
        for (int f = 0; f < 3; f++) {
            Due.is("holds(0, " + f + ", 0)", x.holds(0, f, 0), 0);
            Due.is("holds(0, " + f + ", 1)", x.holds(0, f, 1), NONE);
        }
    }

    private static void anewBehindLay() {
        Due.sentence("9: LAID: no LISTENERS; one who comes then");
        FileRounds x = Due.laid("f1,0,1;f2,1,3;t3,9;");
        for (int l = 0; l < 4; l++) {
            x.join(l);
        }
        x.tick(40);
        Due.is("WHOLE of both", x.listener(0, 4), 3);
        x.lay();
        x.tick(2);
        int[] due = {5, 2, 0, NONE, 0, 0};
        for (int l = 0; l < 4; l++) {
            Due.is("join(5)", x.join(5), l);
            for (int what = 0; what < 6; what++) {
                Due.is("listener(" + l + ", " + what + ")", x.listener(l, what), due[what]);
            }
            for (int f = 0; f < 2; f++) {
                Due.is("holds(" + l + ", " + f + ", 0)", x.holds(l, f, 0), 0);
                Due.is("holds(" + l + ", " + f + ", 1)", x.holds(l, f, 1), NONE);
                Due.is("holds(" + l + ", " + f + ", 2)", x.holds(l, f, 2), f + 1);
            }
        }
    }
}
