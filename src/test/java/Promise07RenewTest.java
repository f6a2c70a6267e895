/** Promise 7: renew. */
public final class Promise07RenewTest {
    private static final int BAD = FileRounds.BAD;

    public static void main(String[] args) {
        numbersThatAreNoFile();
        theFirstAndTheLastFile();
        aRefusedOneChangesNothing();
        oneMore();
        behind99ItIs0();
        symbol0Next();
        allElseStays();
        sendsTheNewVersion();
        atOnceAgain();
        heldUntilATableTells();
        Due.end();
    }

    private static void numbersThatAreNoFile() {
        Due.sentence("7: BAD");
        FileRounds x = new FileRounds();
        for (int f : new int[] {-1, 3, 4, 5, 6, 7, Integer.MIN_VALUE, Integer.MAX_VALUE}) {
            Due.is("renew(" + f + ")", x.renew(f), BAD);
        }
        FileRounds y = Due.laid("f1,0,1;");
        Due.is("renew(1) of one", y.renew(1), BAD);
        Due.is("renew(0) of one", y.renew(0), 1);
    }

    private static void theFirstAndTheLastFile() {
        Due.sentence("7: FILES such as there are");
        FileRounds x = Due.laid("f1,0,1;f1,0,1;f1,0,1;f1,0,1;f1,0,1;f1,0,1;");
        for (int f = 0; f < 6; f++) {
            for (int times = 1; times <= f + 1; times++) {
                Due.is("renew(" + f + ")", x.renew(f), times);
            }
        }
        for (int f = 0; f < 6; f++) {
            Due.is("VERSION of " + f, x.file(f, 3), f + 1);
        }
        Due.is("renew(6)", x.renew(6), BAD);
    }

    private static void aRefusedOneChangesNothing() {
        Due.sentence("7: BAD; nothing changes then");
        FileRounds x = new FileRounds();
        FileRounds y = new FileRounds();
        x.tick(4);
        y.tick(4);
        x.renew(3);
        x.renew(-1);
        Due.alike("behind it", x, y);
    }

    private static void oneMore() {
        Due.sentence("7: its VERSION then");
        FileRounds x = new FileRounds();
        Due.is("renew(1)", x.renew(1), 1);
        Due.is("VERSION", x.file(1, 3), 1);
        Due.is("renew(1) again", x.renew(1), 2);
        Due.is("VERSION then", x.file(1, 3), 2);
    }

    private static void behind99ItIs0() {
        Due.sentence("7: its VERSION is 1 more (behind 99 it is 0)");
        FileRounds x = new FileRounds();
        for (int i = 1; i <= 99; i++) {
            Due.is("renew " + i, x.renew(2), i);
        }
        Due.is("VERSION", x.file(2, 3), 99);
        Due.is("behind 99", x.renew(2), 0);
        Due.is("VERSION then", x.file(2, 3), 0);
        Due.is("and on", x.renew(2), 1);
        Due.is("undo()", x.undo(), 3);
        Due.is("undo() once more", x.undo(), 2);
        Due.is("VERSION undone", x.file(2, 3), 99);
    }

    private static void symbol0Next() {
        Due.sentence("7: and it sends SYMBOL 0 next");
        FileRounds x = Due.laid("f3,2,1;t20,5;");
        x.tick(4);
        Due.is("next ahead", x.file(0, 4), 3);
        x.renew(0);
        Due.is("next", x.file(0, 4), 0);
        x.tick(1);
        Due.is("SYMBOL SENT", x.sent(0, 1), 0);
        Due.is("next then", x.file(0, 4), 1);
        x.tick(4);
        Due.is("all round", x.file(0, 4), 0);
        x.renew(0);
        Due.is("0 stays 0", x.file(0, 4), 0);
    }

    private static void allElseStays() {
        Due.sentence("7: A FILE is RENEWED");
        FileRounds x = new FileRounds();
        x.tick(4);
        x.renew(0);
        int[] credits = {-3, 3, 0};
        int[] next = {0, 0, 1};
        int[] version = {1, 0, 0};
        int[] sent = {2, 0, 1};
        int[] weight = {3, 1, 2};
        for (int f = 0; f < 3; f++) {
            Due.is("CREDIT of " + f, x.file(f, 5), 1000 + credits[f]);
            Due.is("next of " + f, x.file(f, 4), next[f]);
            Due.is("VERSION of " + f, x.file(f, 3), version[f]);
            Due.is("SENT of " + f, x.file(f, 6), sent[f]);
            Due.is("WEIGHT of " + f, x.file(f, 2), weight[f]);
        }
        Due.is("TICKS", x.count(1), 4);
        Due.is("SYMBOLS", x.count(6), 3);
        Due.is("changes", x.count(8), 2);
    }

    private static void sendsTheNewVersion() {
        Due.sentence("7: it sends its next SYMBOL, of its VERSION");
        FileRounds x = new FileRounds();
        x.tick(4);
        x.renew(0);
        x.tick(4);
        int[][] due = {{0, 0, 0, 1, 7}, {1, 2, 1, 0, 6}, {4, 0, 1, 0, 3}, {6, 0, 0, 0, 1}};
        for (int[] row : due) {
            for (int what = 0; what < 4; what++) {
                Due.is("sent(" + row[0] + ", " + what + ")", x.sent(row[0], what), row[what + 1]);
            }
        }
        Due.is("SENT of all VERSIONS", x.file(0, 6), 3);
    }

    private static void atOnceAgain() {
        Due.sentence("7: VERSIONS that were never SENT");
        FileRounds x = Due.laid("f2,0,1;t4,9;");
        x.join(0);
        x.tick(2);
        x.renew(0);
        x.renew(0);
        x.renew(0);
        x.tick(3);
        Due.is("told", x.holds(0, 0, 1), 3);
        Due.is("SENT ahead of it", x.sent(1, 2), 3);
        Due.is("holds", x.holds(0, 0, 0), 0);
    }

    private static void heldUntilATableTells() {
        Due.sentence("7: A LISTENER that gets a TABLE .. of each FILE whose VERSION is another one it holds none any more");
        FileRounds x = new FileRounds();
        x.join(0);
        x.tick(10);
        Due.is("WHOLE", x.listener(0, 4), 5);
        x.renew(0);
        Due.is("WHOLE still", x.listener(0, 4), 5);
        Due.is("holds still", x.holds(0, 0, 0), 15);
        x.tick(1);
        Due.is("WHOLE no more", x.listener(0, 4), 4);
        Due.is("holds no more", x.holds(0, 0, 0), 0);
    }
}
