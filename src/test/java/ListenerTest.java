import java.math.BigInteger;

/** Promises 9, 10, 14, 15: join, repair, listener, holds. */
public final class ListenerTest {
    private static final int NONE = FileRounds.NONE;
    private static final int BAD = FileRounds.BAD;
    private static final int NO = FileRounds.NO;

    public static void main(String[] args) {
        joining();
        wrongNumbers();
        comesLate();
        lifeOfATable();
        lossByTheRule();
        aTableEndsOldVersions();
        newVersionBeforeItIsTold();
        versionRoundAgain();
        repairing();
        repairRefuses();
        repairedOfAnOldVersion();
        spareOnesMakeIt();
        Due.end();
    }

    private static void listenerIs(FileRounds x, int l, int... want) {
        for (int what = 0; what < 6; what++) {
            Due.is("listener(" + l + ", " + what + ") behind " + x.count(1), x.listener(l, what), want[what]);
        }
    }

    private static void holdsAre(FileRounds x, int l, int f, int... want) {
        for (int what = 0; what < 3; what++) {
            String call = "holds(" + l + ", " + f + ", " + what + ") behind " + x.count(1);
            Due.is(call, x.holds(l, f, what), want[what]);
        }
    }

    private static void joining() {
        FileRounds x = new FileRounds();
        for (int p : new int[] {-1, 100, Integer.MIN_VALUE, Integer.MAX_VALUE}) {
            Due.is("join(" + p + ")", x.join(p), BAD);
        }
        Due.is("none came", x.count(4), 0);
        Due.is("no change", x.count(8), 0);
        Due.is("join(99)", x.join(99), 0);
        x.tick(2);
        Due.is("join(0)", x.join(0), 1);
        Due.is("join(1)", x.join(1), 2);
        Due.is("join(50)", x.join(50), 3);
        Due.is("a fifth", x.join(0), FileRounds.FULL);
        Due.is("BAD first", x.join(100), BAD);
        Due.is("four came", x.count(4), 4);
        Due.is("the last changes: four", x.count(8), 4);
        x.undo();
        Due.is("FULL was no change", x.count(4), 3);
        Due.is("join(50) anew", x.join(50), 3);
        listenerIs(x, 1, 0, 2, 0, NONE, 0, 0);
        listenerIs(x, 3, 50, 2, 0, NONE, 0, 0);
        holdsAre(x, 3, 0, 0, NONE, 4);
    }

    private static void wrongNumbers() {
        FileRounds x = new FileRounds();
        x.join(0);
        int[] wrong = {-1, 1, 4, Integer.MIN_VALUE, Integer.MAX_VALUE};
        for (int l : wrong) {
            Due.is("listener(" + l + ", 0)", x.listener(l, 0), BAD);
            Due.is("holds(" + l + ", 0, 0)", x.holds(l, 0, 0), BAD);
            Due.is("repair(" + l + ", 0)", x.repair(l, 0), BAD);
        }
        int[] wrongFiles = {-1, 3, 6, Integer.MIN_VALUE, Integer.MAX_VALUE};
        for (int f : wrongFiles) {
            Due.is("holds(0, " + f + ", 0)", x.holds(0, f, 0), BAD);
            Due.is("repair(0, " + f + ")", x.repair(0, f), BAD);
        }
        Due.is("listener(0, 6)", x.listener(0, 6), BAD);
        Due.is("listener(0, -1)", x.listener(0, -1), BAD);
        Due.is("holds(0, 0, 3)", x.holds(0, 0, 3), BAD);
        Due.is("holds(0, 0, -1)", x.holds(0, 0, -1), BAD);
    }

    private static void comesLate() {
        FileRounds x = new FileRounds();
        x.tick(1);
        x.join(0);
        x.tick(4);
        listenerIs(x, 0, 0, 1, 0, NONE, 0, 0);
        holdsAre(x, 0, 0, 0, NONE, 4);
        x.tick(1);
        listenerIs(x, 0, 0, 1, 1, 16, 0, 0);
        holdsAre(x, 0, 0, 0, 0, 4);
        x.tick(1);
        holdsAre(x, 0, 2, 2, 0, 1);
        x.tick(3);
        holdsAre(x, 0, 0, 12, 0, 2);
        holdsAre(x, 0, 2, 6, 0, 0);
        listenerIs(x, 0, 0, 1, 1, 16, 4, 0);
    }

    private static void lifeOfATable() {
        FileRounds x = Due.laid("f12,6,1;t10,4;");
        x.join(0);
        int[] knows = {0, 1, 1, 1, 0, 0, 0, 0, 0, 0, 0, 1};
        int[] held = {0, 0, 1, 3, 7, 7, 7, 7, 7, 7, 7, 7};
        for (int t = 0; t < knows.length; t++) {
            Due.is("KNOWS ahead of " + t, x.listener(0, 2), knows[t]);
            Due.is("SYMBOLS ahead of " + t, x.holds(0, 0, 0), held[t]);
            Due.is("lives to, ahead of " + t, x.listener(0, 3), t == 0 ? NONE : t <= 10 ? 3 : 13);
            x.tick(1);
        }
        Due.is("the next one", x.holds(0, 0, 0), 7 | 1 << 9);
        Due.is("VERSION told stays", x.holds(0, 0, 1), 0);
        FileRounds y = Due.laid("f1,0,1;t3,1;");
        y.join(0);
        y.tick(99);
        listenerIs(y, 0, 0, 0, 0, 96, 0, 0);
        FileRounds z = Due.laid("f1,0,1;t3,2;");
        z.join(0);
        z.tick(1);
        Due.is("lives one TICK more", z.listener(0, 2), 1);
        z.tick(1);
        Due.is("holds by it", z.holds(0, 0, 0), 1);
        Due.is("knows no more", z.listener(0, 2), 0);
        Due.is("but is WHOLE", z.listener(0, 4), 1);
    }

    private static boolean loses(int l, int t, int p) {
        BigInteger x = BigInteger.valueOf(7919L * l + 3571L * t + 1);
        return x.multiply(x).mod(BigInteger.valueOf(65521)).mod(BigInteger.valueOf(100)).intValue() < p;
    }

    private static void lossByTheRule() {
        FileRounds x = new FileRounds();
        int[] losses = {0, 99, 50, 7};
        int[] missed = new int[4];
        for (int p : losses) {
            x.join(p);
        }
        for (int t = 0; t < 9999; t += 99) {
            x.tick(99);
            for (int l = 0; l < 4; l++) {
                for (int k = 0; k < 99; k++) {
                    missed[l] += loses(l, t + k, losses[l]) ? 1 : 0;
                }
            }
            int l = t / 99 % 4;
            Due.is("missed by " + l + " behind " + (t + 99), x.listener(l, 5), missed[l]);
        }
        Due.is("without LOSS", x.listener(0, 5), 0);
    }

    private static void aTableEndsOldVersions() {
        FileRounds x = new FileRounds();
        x.join(0);
        x.tick(10);
        Due.is("WHOLE", x.listener(0, 4), 5);
        x.renew(0);
        Due.is("WHOLE still", x.listener(0, 4), 5);
        holdsAre(x, 0, 0, 15, 0, 0);
        x.tick(1);
        holdsAre(x, 0, 0, 0, 1, 4);
        holdsAre(x, 0, 2, 7, 0, 0);
        Due.is("WHOLE no more", x.listener(0, 4), 4);
        x.tick(1);
        Due.is("sends VERSION 1", x.sent(0, 2), 1);
        holdsAre(x, 0, 0, 1, 1, 3);
    }

    private static void newVersionBeforeItIsTold() {
        FileRounds x = Due.laid("f3,0,1;t6,20;");
        x.join(0);
        x.tick(3);
        x.renew(0);
        x.tick(3);
        holdsAre(x, 0, 0, 3, 0, 1);
        x.tick(1);
        holdsAre(x, 0, 0, 0, 1, 3);
        x.tick(1);
        Due.is("the SYMBOL sent", x.sent(0, 1), 0);
        holdsAre(x, 0, 0, 1, 1, 2);
    }

    private static void versionRoundAgain() {
        FileRounds x = Due.laid("f3,0,1;t6,20;");
        x.join(0);
        x.tick(3);
        for (int i = 0; i < 100; i++) {
            x.renew(0);
        }
        x.tick(4);
        holdsAre(x, 0, 0, 7, 0, 0);
    }

    private static void repairing() {
        FileRounds x = Due.laid("f4,2,1;f2,0,1;t6,20;");
        x.tick(9);
        x.join(0);
        x.tick(4);
        Due.is("it lacks all", x.holds(0, 0, 0), 0);
        // In TICKS 13 to 15 SYMBOL 5 of FILE 0, 0 of FILE 1 and 0 of FILE 0 are SENT.
        x.tick(1);
        Due.is("what was SENT", x.sent(0, 0) * 100 + x.sent(0, 1), 5);
        holdsAre(x, 0, 0, 32, 0, 3);
        Due.is("repair(0, 0)", x.repair(0, 0), 3);
        holdsAre(x, 0, 0, 32 | 7, 0, 0);
        holdsAre(x, 0, 1, 0, 0, 2);
        Due.is("WHOLE of it", x.listener(0, 4), 1);
        Due.is("repair(0, 0) again", x.repair(0, 0), NO);
        Due.is("repair(0, 1)", x.repair(0, 1), 2);
        holdsAre(x, 0, 1, 3, 0, 0);
        Due.is("WHOLE of both", x.listener(0, 4), 3);
        Due.is("changes", x.count(8), 4);
        Due.is("undo()", x.undo(), 3);
        holdsAre(x, 0, 1, 0, 0, 2);
    }

    private static void repairRefuses() {
        FileRounds x = Due.laid("f4,2,1;t6,2;");
        x.join(0);
        Due.is("knows nothing yet", x.repair(0, 0), NO);
        x.tick(1);
        Due.is("knows", x.listener(0, 2), 1);
        x.tick(1);
        Due.is("knows no more", x.repair(0, 0), NO);
        Due.is("BAD first", x.repair(0, 1), BAD);
        Due.is("holds as it did", x.holds(0, 0, 0), 1);
        Due.is("no change more", x.count(8), 3);
        Due.is("undo()", x.undo(), 2);
        Due.is("repair(0, 0)", x.repair(0, 0), 4);
    }

    private static void repairedOfAnOldVersion() {
        FileRounds x = Due.laid("f4,2,1;t6,20;");
        x.join(0);
        x.tick(2);
        x.renew(0);
        Due.is("repair(0, 0)", x.repair(0, 0), 3);
        holdsAre(x, 0, 0, 15, 0, 0);
        x.tick(4);
        Due.is("until it is told", x.listener(0, 4), 1);
        x.tick(1);
        holdsAre(x, 0, 0, 0, 1, 4);
    }

    private static void spareOnesMakeIt() {
        FileRounds x = Due.laid("f2,3,1;t6,20;");
        x.join(0);
        x.tick(6);
        holdsAre(x, 0, 0, 31, 0, 0);
        Due.is("WHOLE with more than NEED", x.listener(0, 4), 1);
        Due.is("repair(0, 0)", x.repair(0, 0), NO);
    }
}
