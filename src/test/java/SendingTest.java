/** Promises 6, 7, 8, 12, 13: tick, renew, weigh, file, sent. */
public final class SendingTest {
    private static final int NONE = FileRounds.NONE;
    private static final int BAD = FileRounds.BAD;
    private static final int NO = FileRounds.NO;

    public static void main(String[] args) {
        whoSends();
        symbolsGoRound();
        tickRefuses();
        tickEndsAt9999();
        renewing();
        versionsGoRound();
        weighing();
        partOfAll();
        fileRefuses();
        sentRefuses();
        Due.end();
    }

    private static void sentIs(FileRounds x, int k, int... want) {
        for (int what = 0; what < 4; what++) {
            Due.is("sent(" + k + ", " + what + ")", x.sent(k, what), want[what]);
        }
    }

    private static void creditsAre(FileRounds x, int... want) {
        for (int f = 0; f < want.length; f++) {
            Due.is("CREDIT of " + f + " behind " + x.count(1), x.file(f, 5), 1000 + want[f]);
        }
    }

    private static void whoSends() {
        FileRounds x = new FileRounds();
        // The FILE in TICKS 0 to 9 and CREDITS behind each, reckoned by hand.
        int[] files = {NONE, 0, 2, 0, 1, NONE, 2, 0, 0, 2};
        int[] symbols = {NONE, 0, 0, 1, 0, NONE, 1, 2, 3, 2};
        int[][] credits = {
            {0, 0, 0}, {-3, 1, 2}, {0, 2, -2}, {-3, 3, 0}, {0, -2, 2},
            {0, -2, 2}, {3, -1, -2}, {0, 0, 0}, {-3, 1, 2}, {0, 2, -2}};
        for (int t = 0; t < 10; t++) {
            Due.is("tick(1) in " + t, x.tick(1), files[t] == NONE ? 0 : 1);
            sentIs(x, 0, files[t], symbols[t], files[t] == NONE ? NONE : 0, t);
            creditsAre(x, credits[t]);
        }
        for (int k = 0; k < 10; k++) {
            sentIs(x, k, files[9 - k], symbols[9 - k], files[9 - k] == NONE ? NONE : 0, 9 - k);
        }
        Due.is("TABLES", x.count(5), 2);
        Due.is("SYMBOLS", x.count(6), 8);
        Due.is("tick(99)", x.tick(99), 79);
        Due.is("TABLES then", x.count(5), 22);
        Due.is("SYMBOLS then", x.count(6), 87);
        Due.is("TICKS then", x.count(1), 109);
    }

    private static void symbolsGoRound() {
        FileRounds x = Due.laid("f2,1,1;t20,1;");
        int[] next = {0, 1, 2, 0, 1, 2, 0, 1, 2, 0};
        for (int t = 0; t < 10; t++) {
            x.tick(1);
            Due.is("next behind " + t, x.file(0, 4), next[t]);
        }
        FileRounds y = Due.laid("f12,6,1;t20,1;");
        y.tick(19);
        Due.is("18 SYMBOLS round", y.file(0, 4), 0);
        sentIs(y, 0, 0, 17, 0, 18);
    }

    private static void tickRefuses() {
        FileRounds x = new FileRounds();
        for (int n : new int[] {0, -1, 100, Integer.MIN_VALUE, Integer.MAX_VALUE}) {
            Due.is("tick(" + n + ")", x.tick(n), BAD);
        }
        Due.is("TICKS stay", x.count(1), 0);
        Due.is("no change", x.count(8), 0);
    }

    private static void tickEndsAt9999() {
        FileRounds x = new FileRounds();
        for (int i = 0; i < 100; i++) {
            x.tick(99);
        }
        Due.is("TICKS", x.count(1), 9900);
        x.tick(1);
        Due.is("to 10000", x.tick(99), NO);
        Due.is("TICKS stay", x.count(1), 9901);
        Due.is("to 9999", x.tick(98), 79);
        Due.is("TICKS at the end", x.count(1), 9999);
        Due.is("one more", x.tick(1), NO);
        Due.is("BAD first", x.tick(100), BAD);
        Due.is("the changes", x.count(8), 4);
        Due.is("undo()", x.undo(), 3);
        Due.is("tick(1) behind it", x.tick(1), 1);
        Due.is("the TICK of it", x.sent(0, 3), 9901);
    }

    private static void renewing() {
        FileRounds x = new FileRounds();
        for (int f : new int[] {-1, 3, 6, Integer.MIN_VALUE, Integer.MAX_VALUE}) {
            Due.is("renew(" + f + ")", x.renew(f), BAD);
        }
        Due.is("no change", x.count(8), 0);
        x.tick(4);
        Due.is("next ahead", x.file(0, 4), 2);
        Due.is("renew(0)", x.renew(0), 1);
        Due.is("VERSION", x.file(0, 3), 1);
        Due.is("next", x.file(0, 4), 0);
        Due.is("SENT stays", x.file(0, 6), 2);
        creditsAre(x, -3, 3, 0);
        Due.is("others stay", x.file(2, 4), 1);
        Due.is("others' VERSION", x.file(2, 3), 0);
        x.tick(4);
        sentIs(x, 0, 0, 0, 1, 7);
        sentIs(x, 1, 2, 1, 0, 6);
        sentIs(x, 4, 0, 1, 0, 3);
        Due.is("SENT of all VERSIONS", x.file(0, 6), 3);
    }

    private static void versionsGoRound() {
        FileRounds x = new FileRounds();
        for (int i = 1; i <= 99; i++) {
            Due.is("renew " + i, x.renew(2), i);
        }
        Due.is("behind 99", x.renew(2), 0);
        Due.is("VERSION", x.file(2, 3), 0);
        Due.is("and on", x.renew(2), 1);
    }

    private static void weighing() {
        FileRounds x = new FileRounds();
        int[][] bad = {{-1, 1}, {3, 1}, {0, 0}, {0, 10}, {0, -1}, {3, 0}, {Integer.MAX_VALUE, 5}, {0, Integer.MIN_VALUE}};
        for (int[] call : bad) {
            Due.is("weigh(" + call[0] + ", " + call[1] + ")", x.weigh(call[0], call[1]), BAD);
        }
        Due.is("it is so", x.weigh(0, 3), NO);
        Due.is("no change", x.count(8), 0);
        x.tick(3);
        Due.is("weigh(1, 9)", x.weigh(1, 9), 1);
        Due.is("WEIGHT", x.file(1, 2), 9);
        Due.is("WEIGHTS together", x.count(7), 14);
        creditsAre(x, 0, 2, -2);
        Due.is("again", x.weigh(1, 9), NO);
        x.tick(1);
        Due.is("it sends", x.sent(0, 0), 1);
        creditsAre(x, 3, -3, 0);
        Due.is("weigh(1, 1)", x.weigh(1, 1), 9);
        Due.is("changes", x.count(8), 4);
    }

    private static void partOfAll() {
        FileRounds x = new FileRounds();
        x.tick(1);
        Due.is("a TABLE alone", x.file(0, 7), NONE);
        x.tick(1);
        Due.is("all", x.file(0, 7), Float.floatToIntBits(1f));
        Due.is("nothing", x.file(1, 7), 0);
        x.tick(1);
        Due.is("half", x.file(0, 7), Float.floatToIntBits(0.5f));
        x.tick(1);
        Due.is("two of three", x.file(0, 7), Float.floatToIntBits(2f / 3f));
        Due.is("one of three", x.file(2, 7), Float.floatToIntBits(1f / 3f));
        FileRounds y = Due.laid("f1,0,9;f1,0,1;f1,0,7;t20,99;");
        int all = 0;
        for (int i = 0; i < 101; i++) {
            all += y.tick(99);
            float part = (float) y.file(i % 3, 6) / (float) all;
            Due.is("PART of " + i % 3 + " of " + all, y.file(i % 3, 7), Float.floatToIntBits(part));
        }
    }

    private static void fileRefuses() {
        FileRounds x = new FileRounds();
        int[][] bad = {{-1, 0}, {3, 0}, {0, -1}, {0, 8}, {Integer.MIN_VALUE, 0}, {0, Integer.MAX_VALUE}, {3, 7}};
        for (int[] call : bad) {
            Due.is("file(" + call[0] + ", " + call[1] + ")", x.file(call[0], call[1]), BAD);
        }
    }

    private static void sentRefuses() {
        FileRounds x = new FileRounds();
        int[][] bad = {{-1, 0}, {10, 0}, {0, -1}, {0, 4}, {Integer.MIN_VALUE, 3}, {Integer.MAX_VALUE, 3}};
        for (int[] call : bad) {
            Due.is("sent(" + call[0] + ", " + call[1] + ")", x.sent(call[0], call[1]), BAD);
        }
        for (int t = 0; t < 12; t++) {
            for (int k = 0; k < 10; k++) {
                Due.is("sent(" + k + ", 3) behind " + t, x.sent(k, 3), k < t ? t - 1 - k : NONE);
            }
            x.tick(1);
        }
        Due.is("BAD ahead of NONE", new FileRounds().sent(0, 4), BAD);
    }
}
