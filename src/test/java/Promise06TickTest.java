/** Promise 6: tick. */
public final class Promise06TickTest {
    private static final int NONE = FileRounds.NONE;
    private static final int BAD = FileRounds.BAD;
    private static final int NO = FileRounds.NO;

    public static void main(String[] args) {
        tooFewTicks();
        tooManyTicks();
        oneAndNinetyNine();
        aTableFirst();
        aTableEachSoManyTicks();
        howManySymbols();
        whoSends();
        ofSeveralTheLowest();
        behindTheLastSymbolTheFirst();
        onlyOneSymbol();
        oneCallOrMany();
        upTo9999();
        aRefusedOneChangesNothing();
        badAheadOfNo();
        beyondThat();
        Due.end();
    }

    private static void tooFewTicks() {
        Due.sentence("6: n TICKS (1 to 99), too few");
        FileRounds x = new FileRounds();
        for (int n : new int[] {0, -1, -99, Integer.MIN_VALUE}) {
            Due.is("tick(" + n + ")", x.tick(n), BAD);
        }
        Due.is("TICKS", x.count(1), 0);
        Due.is("changes", x.count(8), 0);
    }

    private static void tooManyTicks() {
        Due.sentence("6: n TICKS (1 to 99), too many");
        FileRounds x = new FileRounds();
        for (int n : new int[] {100, 101, 9999, 10000, Integer.MAX_VALUE}) {
            Due.is("tick(" + n + ")", x.tick(n), BAD);
        }
        Due.is("TICKS", x.count(1), 0);
        Due.is("changes", x.count(8), 0);
    }

    private static void oneAndNinetyNine() {
        Due.sentence("6: n TICKS (1 to 99)");
        FileRounds x = new FileRounds();
        Due.is("tick(1)", x.tick(1), 0);
        Due.is("TICKS", x.count(1), 1);
        Due.is("tick(99)", x.tick(99), 80);
        Due.is("TICKS then", x.count(1), 100);
        Due.is("the last TICK", x.sent(0, 3), 99);
    }

    private static void aTableFirst() {
        Due.sentence("6: a TABLE, if the TICK modulo E is 0 (TICK 0)");
        FileRounds x = new FileRounds();
        Due.is("tick(1)", x.tick(1), 0);
        Due.is("TABLES", x.count(5), 1);
        Due.is("SYMBOLS", x.count(6), 0);
        Due.is("what was SENT", x.sent(0, 0), NONE);
        for (int f = 0; f < 3; f++) {
            Due.is("CREDIT of " + f, x.file(f, 5), 1000);
            Due.is("next of " + f, x.file(f, 4), 0);
        }
    }

    private static void aTableEachSoManyTicks() {
        Due.sentence("6: a TABLE, if the TICK modulo E is 0 (E 3 to 20)");
        for (int e : new int[] {3, 4, 19, 20}) {
            FileRounds x = Due.laid("f1,0,1;f1,0,2;t" + e + ",5;");
            int tables = 0;
            for (int t = 0; t < 45; t++) {
                boolean table = t % e == 0;
                tables += table ? 1 : 0;
                Due.is("tick(1) in " + t + ", E " + e, x.tick(1), table ? 0 : 1);
                Due.is("a TABLE in " + t, x.sent(0, 0) == NONE ? 1 : 0, table ? 1 : 0);
                Due.is("TABLES behind " + t, x.count(5), tables);
                Due.is("SYMBOLS behind " + t, x.count(6), t + 1 - tables);
            }
        }
    }

    private static void howManySymbols() {
        Due.sentence("6: how many SYMBOLS were SENT in them");
        FileRounds x = Due.laid("f1,0,1;t3,1;");
        int[] n = {1, 2, 1, 3, 2, 99, 4, 98};
        int[] due = {0, 2, 0, 2, 2, 66, 2, 66};
        for (int i = 0; i < n.length; i++) {
            Due.is("tick(" + n[i] + "), call " + i, x.tick(n[i]), due[i]);
        }
        Due.is("all of them", x.count(6), 140);
        Due.is("TABLES", x.count(5), 70);
    }

    private static void creditsAre(FileRounds x, int... want) {
        for (int f = 0; f < want.length; f++) {
            Due.is("CREDIT of " + f + " behind " + x.count(1), x.file(f, 5), 1000 + want[f]);
        }
    }

    private static void whoSends() {
        Due.sentence("6: that FILE sends whose CREDIT is greatest .. its CREDIT is less by all WEIGHTS together");
        FileRounds x = new FileRounds();
        // The FILE in TICKS 0 to 9 and CREDITS behind each, reckoned by hand.
        int[] files = {NONE, 0, 2, 0, 1, NONE, 2, 0, 0, 2};
        int[] symbols = {NONE, 0, 0, 1, 0, NONE, 1, 2, 3, 2};
        int[][] credits = {
            {0, 0, 0}, {-3, 1, 2}, {0, 2, -2}, {-3, 3, 0}, {0, -2, 2},
            {0, -2, 2}, {3, -1, -2}, {0, 0, 0}, {-3, 1, 2}, {0, 2, -2}};
        for (int t = 0; t < 10; t++) {
            Due.is("tick(1) in " + t, x.tick(1), files[t] == NONE ? 0 : 1);
            Due.is("FILE in " + t, x.sent(0, 0), files[t]);
            Due.is("SYMBOL in " + t, x.sent(0, 1), symbols[t]);
            creditsAre(x, credits[t]);
        }
    }

    private static void ofSeveralTheLowest() {
        Due.sentence("6: of several the lowest");
        FileRounds x = Due.laid("f2,0,4;f2,0,4;f2,0,4;f2,0,4;f2,0,4;f2,0,4;t20,5;");
        x.tick(1);
        for (int t = 1; t <= 18; t++) {
            x.tick(1);
            Due.is("FILE in " + t, x.sent(0, 0), (t - 1) % 6);
        }
        // Behind two SYMBOLS FILES 1 and 2 have 2 each, and FILE 0 has none.
        FileRounds y = Due.laid("f1,0,2;f1,0,1;f1,0,1;t20,5;");
        int[] due = {0, 1, 2, 0, 0, 1, 2, 0};
        y.tick(1);
        for (int t = 0; t < due.length; t++) {
            y.tick(1);
            Due.is("FILE in " + (t + 1) + " by 2, 1, 1", y.sent(0, 0), due[t]);
        }
    }

    private static void behindTheLastSymbolTheFirst() {
        Due.sentence("6: that next to be sent is 1 more, behind the last one 0");
        FileRounds x = Due.laid("f2,1,1;t20,1;");
        int[] next = {0, 1, 2, 0, 1, 2, 0, 1, 2, 0};
        for (int t = 0; t < 10; t++) {
            x.tick(1);
            Due.is("next behind " + t, x.file(0, 4), next[t]);
        }
        FileRounds y = Due.laid("f12,6,1;t20,1;");
        y.tick(18);
        Due.is("the 18th next", y.file(0, 4), 17);
        y.tick(1);
        Due.is("the 18th", y.sent(0, 1), 17);
        Due.is("the first next", y.file(0, 4), 0);
    }

    private static void onlyOneSymbol() {
        Due.sentence("6: behind the last one 0, of one alone");
        FileRounds x = Due.laid("f1,0,9;t20,1;");
        x.tick(1);
        for (int t = 1; t < 20; t++) {
            x.tick(1);
            Due.is("SYMBOL in " + t, x.sent(0, 1), 0);
            Due.is("next behind " + t, x.file(0, 4), 0);
            Due.is("CREDIT behind " + t, x.file(0, 5), 1000);
        }
    }

    private static void oneCallOrMany() {
        Due.sentence("6: n TICKS");
        FileRounds x = new FileRounds();
        FileRounds y = new FileRounds();
        for (FileRounds z : new FileRounds[] {x, y}) {
            z.join(30);
            z.tick(3);
            z.renew(2);
            z.join(0);
        }
        Due.is("tick(99)", x.tick(99), 79);
        int symbols = 0;
        for (int i = 0; i < 99; i++) {
            symbols += y.tick(1);
        }
        Due.is("99 times tick(1)", symbols, 79);
        boolean same = Standing.ofWhatIsLaid(x).equals(Standing.ofWhatIsLaid(y));
        Due.is("stand alike", same ? 1 : 0, 1);
    }

    private static FileRounds behind9900() {
        FileRounds x = new FileRounds();
        for (int i = 0; i < 100; i++) {
            x.tick(99);
        }
        return x;
    }

    private static void upTo9999() {
        Due.sentence("6: NO: TICK would be above 9999");
        FileRounds x = behind9900();
        Due.is("TICKS", x.count(1), 9900);
        Due.is("to 9999", x.tick(99), 79);
        Due.is("TICKS at the end", x.count(1), 9999);
        Due.is("one more", x.tick(1), NO);
        Due.is("99 more", x.tick(99), NO);
        FileRounds y = behind9900();
        y.tick(1);
        Due.is("from 9901 to 10000", y.tick(99), NO);
        Due.is("from 9901 to 9999", y.tick(98), 79);
        Due.is("to 10000", y.tick(1), NO);
    }

    private static void aRefusedOneChangesNothing() {
        Due.sentence("6: NO; BAD; nothing changes then");
        FileRounds x = behind9900();
        FileRounds y = behind9900();
        x.tick(90);
        y.tick(90);
        Due.is("tick(10)", x.tick(10), NO);
        Due.is("tick(0)", x.tick(0), BAD);
        Due.is("tick(100)", x.tick(100), BAD);
        Due.alike("behind them", x, y);
    }

    private static void badAheadOfNo() {
        Due.sentence("6: Of several the first in this order");
        FileRounds x = behind9900();
        x.tick(99);
        Due.is("tick(100)", x.tick(100), BAD);
        Due.is("tick(0)", x.tick(0), BAD);
        Due.is("tick(the greatest)", x.tick(Integer.MAX_VALUE), BAD);
    }

    private static void beyondThat() {
        Due.sentence("6: NO: not as things stand");
        FileRounds x = behind9900();
        x.tick(99);
        Due.is("tick(1)", x.tick(1), NO);
        Due.is("other changes go on: renew(0)", x.renew(0), 1);
        Due.is("join(0)", x.join(0), 0);
        Due.is("came behind the last", x.listener(0, 1), 9999);
        x.undo();
        x.undo();
        Due.is("undo() of 99 TICKS", x.undo(), 1);
        Due.is("tick(1) then", x.tick(1), 0);
        Due.is("its TICK", x.sent(0, 3), 9900);
        Due.is("tick(98)", x.tick(98), 79);
        Due.is("lay() begins anew", layOneFile(x), 1);
        Due.is("tick(99)", x.tick(99), 82);
    }

    private static int layOneFile(FileRounds x) {
        Due.write(x, "f1,0,1;");
        return x.lay();
    }
}
