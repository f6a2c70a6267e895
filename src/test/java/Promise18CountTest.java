/** Promise 18: count. */
public final class Promise18CountTest {
    private static final int BAD = FileRounds.BAD;

    public static void main(String[] args) {
        numbersThatAreNotAsked();
        filesAndTable();
        ticksTablesAndSymbols();
        listeners();
        weightsTogether();
        changesThatCanBeUndone();
        lettersOfTheText();
        allTogether();
        Due.end();
    }

    private static void numbersThatAreNotAsked() {
        Due.sentence("18: BAD");
        FileRounds x = new FileRounds();
        for (int what : new int[] {-1, -2, 10, 11, Integer.MIN_VALUE, Integer.MAX_VALUE}) {
            Due.is("count(" + what + ")", x.count(what), BAD);
        }
    }

    private static void filesAndTable() {
        Due.sentence("18: 0 FILES, 2 E, 3 LIFE");
        FileRounds x = Due.laid("f1,0,1;t3,99;");
        Due.is("FILES", x.count(0), 1);
        Due.is("E", x.count(2), 3);
        Due.is("LIFE", x.count(3), 99);
        FileRounds y = Due.laid("f1,0,1;f1,0,1;f1,0,1;f1,0,1;f1,0,1;f1,0,1;t20,1;");
        Due.is("six FILES", y.count(0), 6);
        Due.is("E of 20", y.count(2), 20);
        Due.is("LIFE of 1", y.count(3), 1);
        Due.write(y, "t4,4;");
        Due.is("E, told and not LAID", y.count(2), 20);
        y.fault();
        Due.is("LIFE, told and not LAID", y.count(3), 1);
    }

    private static void ticksTablesAndSymbols() {
        Due.sentence("18: 1 TICKS gone by, 5 TABLES that were SENT, 6 SYMBOLS that were");
        FileRounds x = new FileRounds();
        int[][] due = {{1, 1, 0}, {4, 1, 3}, {1, 2, 4}, {99, 21, 84}};
        int ticks = 0;
        for (int i = 0; i < due.length; i++) {
            x.tick(due[i][0]);
            ticks += due[i][0];
            Due.is("TICKS, call " + i, x.count(1), ticks);
            Due.is("TABLES and SYMBOLS, call " + i, x.count(5) + x.count(6), ticks);
        }
        Due.is("TABLES", x.count(5), 21);
        Due.is("SYMBOLS", x.count(6), 84);
        x.undo();
        Due.is("TICKS undone", x.count(1), 6);
        Due.is("TABLES undone", x.count(5), 2);
        Due.is("SYMBOLS undone", x.count(6), 4);
    }

    private static void listeners() {
        Due.sentence("18: 4 LISTENERS");
        FileRounds x = new FileRounds();
        for (int l = 0; l < 6; l++) {
            Due.is("behind " + l, x.count(4), Math.min(l, 4));
            x.join(l);
        }
        x.undo();
        Due.is("undone", x.count(4), 3);
    }

    private static void weightsTogether() {
        Due.sentence("18: 7 WEIGHTS together");
        FileRounds x = Due.laid("f1,0,9;f1,0,9;f1,0,9;f1,0,9;f1,0,9;f1,0,9;");
        Due.is("the most", x.count(7), 54);
        for (int f = 0; f < 6; f++) {
            x.weigh(f, 1);
            Due.is("behind " + f, x.count(7), 54 - 8 * (f + 1));
        }
        x.undo();
        Due.is("undone", x.count(7), 14);
        FileRounds y = Due.laid("f1,0,1;");
        Due.is("the least", y.count(7), 1);
    }

    private static void changesThatCanBeUndone() {
        Due.sentence("18: 8 changes that can be UNDONE");
        FileRounds x = new FileRounds();
        x.join(0);
        Due.is("a LISTENER more", x.count(8), 1);
        x.tick(99);
        Due.is("TICKS of one call", x.count(8), 2);
        x.weigh(0, 1);
        Due.is("a WEIGHT told anew", x.count(8), 3);
        x.renew(0);
        Due.is("a FILE RENEWED", x.count(8), 4);
        x.renew(0);
        Due.is("four at most", x.count(8), 4);
        x.undo();
        Due.is("one undone", x.count(8), 3);
        FileRounds y = new FileRounds();
        y.join(0);
        y.tick(1);
        y.repair(0, 0);
        Due.is("a FILE REPAIRED", y.count(8), 3);
    }

    private static void lettersOfTheText() {
        Due.sentence("18: 9 letters of THE TEXT");
        FileRounds x = new FileRounds();
        for (int i = 0; i < 200; i++) {
            Due.is("behind " + i, x.count(9), i);
            x.write(32);
        }
        x.write(32);
        Due.is("of a full one", x.count(9), 200);
        x.wipe();
        Due.is("wiped", x.count(9), 0);
    }

    private static void allTogether() {
        Due.sentence("18: How many");
        FileRounds x = new FileRounds();
        x.join(0);
        x.tick(12);
        x.weigh(0, 9);
        x.write(102);
        int[] due = {3, 12, 5, 12, 1, 3, 9, 12, 3, 1};
        for (int what = 0; what < 10; what++) {
            Due.is("count(" + what + ")", x.count(what), due[what]);
        }
    }
}
