/** Promise 5: lay. */
public final class Promise05LayTest {
    private static final int NONE = FileRounds.NONE;
    private static final int BAD = FileRounds.BAD;
    private static final int NO = FileRounds.NO;

    public static void main(String[] args) {
        anEmptyTextIsRefused();
        noFileIsRefused();
        aFaultIsRefused();
        aRefusedOneChangesNothing();
        fromOneFileToSix();
        numbersAtTheirEdges();
        withoutATable();
        theLastTableCounts();
        beginsAnew();
        beginsAnewWithTheSameText();
        noneCanBeUndone();
        theTextStays();
        fewerFilesThanBefore();
        Due.end();
    }

    private static void anEmptyTextIsRefused() {
        Due.sentence("5: NO, empty");
        FileRounds x = new FileRounds();
        Due.is("lay()", x.lay(), NO);
        Due.write(x, "f1,0,1;");
        x.wipe();
        Due.is("lay() of a wiped one", x.lay(), NO);
        Due.is("FILES", x.count(0), 3);
    }

    private static void noFileIsRefused() {
        Due.sentence("5: with a FILE at least (NO else)");
        FileRounds x = new FileRounds();
        Due.write(x, "t3,5;");
        Due.is("lay() of a TABLE", x.lay(), NO);
        Due.write(x, "t4,6;");
        Due.is("lay() of two", x.lay(), NO);
        Due.is("no FAULT though", x.fault(), NONE);
        Due.is("E stays", x.count(2), 5);
        Due.write(x, "f1,0,1;");
        Due.is("lay() with a FILE", x.lay(), 1);
    }

    private static void aFaultIsRefused() {
        Due.sentence("5: a TEXT without FAULT (NO else)");
        String[] texts = {
            "x", "f1,0,1;x", "f1,0,1", "f1,0,1;f1,0,1", "f0,0,1;", "f1,7,1;", "f1,0,10;", "f1,0,1;t2,5;", "f1,0,1;t3,0;",
            "f1,0,1;f1,0,1;f1,0,1;f1,0,1;f1,0,1;f1,0,1;f1,0,1;", "f1,0,1; "};
        for (String text : texts) {
            FileRounds x = new FileRounds();
            Due.write(x, text);
            Due.is("lay() of " + text, x.lay(), NO);
            Due.is("FILES", x.count(0), 3);
        }
    }

    private static void aRefusedOneChangesNothing() {
        Due.sentence("5: NO; nothing changes then");
        for (String text : new String[] {"", "t3,5;", "f1,0,1;f2,0,2;t9,9;x", "f1,0,9;f1,0,1"}) {
            FileRounds x = new FileRounds();
            FileRounds y = new FileRounds();
            for (FileRounds z : new FileRounds[] {x, y}) {
                z.join(5);
                z.tick(7);
                z.renew(1);
                Due.write(z, text);
            }
            Due.is("lay() of " + text, x.lay(), NO);
            Due.alike("behind it", x, y);
        }
    }

    private static void fromOneFileToSix() {
        Due.sentence("5: how many FILES");
        StringBuilder text = new StringBuilder();
        for (int files = 1; files <= 6; files++) {
            text.append("f").append(files).append(",").append(files - 1).append(",").append(10 - files).append(";");
            FileRounds x = new FileRounds();
            Due.write(x, text.toString());
            Due.is("lay() of " + text, x.lay(), files);
            Due.is("FILES", x.count(0), files);
            Due.is("NEED of the last", x.file(files - 1, 0), files);
            Due.is("SPARE of the last", x.file(files - 1, 1), files - 1);
            Due.is("WEIGHT of the last", x.file(files - 1, 2), 10 - files);
            Due.is("NEED of the first", x.file(0, 0), 1);
            Due.is("one more", x.file(files, 0), BAD);
        }
    }

    private static void numbersAtTheirEdges() {
        Due.sentence("5: NEED N, SPARE S, WEIGHT W, each E TICKS, LIFE L");
        FileRounds x = Due.laid("f1,0,1;f12,6,9;t3,1;");
        int[][] due = {{1, 0, 1}, {12, 6, 9}};
        for (int f = 0; f < 2; f++) {
            for (int what = 0; what < 3; what++) {
                Due.is("file(" + f + ", " + what + ")", x.file(f, what), due[f][what]);
            }
        }
        Due.is("E", x.count(2), 3);
        Due.is("LIFE", x.count(3), 1);
        FileRounds y = Due.laid("t20,99;f07,03,05;");
        Due.is("E", y.count(2), 20);
        Due.is("LIFE", y.count(3), 99);
        Due.is("NEED of two figures", y.file(0, 0), 7);
        Due.is("SPARE of two figures", y.file(0, 1), 3);
        Due.is("WEIGHT of two figures", y.file(0, 2), 5);
    }

    private static void withoutATable() {
        Due.sentence("5: (6, 20 without)");
        FileRounds x = Due.laid("f1,0,1;");
        Due.is("E", x.count(2), 6);
        Due.is("LIFE", x.count(3), 20);
        FileRounds y = Due.laid("t3,5;f1,0,1;");
        y.wipe();
        Due.write(y, "f1,0,1;");
        y.lay();
        Due.is("E behind another", y.count(2), 6);
        Due.is("LIFE behind another", y.count(3), 20);
    }

    private static void theLastTableCounts() {
        Due.sentence("5: of several the last one counts");
        FileRounds x = Due.laid("t3,5;f1,0,1;t20,99;f1,0,1;t7,8;");
        Due.is("E", x.count(2), 7);
        Due.is("LIFE", x.count(3), 8);
        FileRounds y = Due.laid("t6,20;t5,1;f1,0,1;");
        Due.is("E ahead of the FILE", y.count(2), 5);
        Due.is("LIFE ahead of the FILE", y.count(3), 1);
    }

    private static void beginsAnew() {
        Due.sentence("5: TICK 0, no LISTENERS, nothing was SENT, all CREDITS 0, all FILES send SYMBOL 0 next");
        String text = "t4,7;f12,6,9;t19,98;f3,0,1;";
        FileRounds x = new FileRounds();
        x.join(0);
        x.tick(33);
        x.renew(0);
        x.weigh(1, 9);
        Due.write(x, text);
        Due.is("lay()", x.lay(), 2);
        int[] counts = {2, 0, 19, 98, 0, 0, 0, 10, 0, 27};
        for (int what = 0; what < counts.length; what++) {
            Due.is("count(" + what + ")", x.count(what), counts[what]);
        }
        int[][] files = {{12, 6, 9, 0, 0, 1000, 0, NONE}, {3, 0, 1, 0, 0, 1000, 0, NONE}};
        for (int f = 0; f < 2; f++) {
            for (int what = 0; what < 8; what++) {
                Due.is("file(" + f + ", " + what + ")", x.file(f, what), files[f][what]);
            }
        }
        Due.is("sent(0, 3)", x.sent(0, 3), NONE);
        Due.is("listener(0, 0)", x.listener(0, 0), BAD);
        Due.alike("as a new one with that text", x, Due.laid(text));
    }

    private static void beginsAnewWithTheSameText() {
        Due.sentence("5: LAID, once more");
        FileRounds x = Due.laid("f2,1,3;f3,0,4;t5,6;");
        x.join(60);
        x.join(0);
        x.tick(14);
        x.weigh(0, 9);
        x.renew(1);
        x.tick(3);
        x.repair(1, 1);
        Due.is("lay() again", x.lay(), 2);
        FileRounds y = Due.laid("f2,1,3;f3,0,4;t5,6;");
        for (FileRounds z : new FileRounds[] {x, y}) {
            Due.is("join(30)", z.join(30), 0);
            Due.is("join(0)", z.join(0), 1);
            z.tick(9);
        }
        Due.alike("goes on as a new one", x, y);
    }

    private static void noneCanBeUndone() {
        Due.sentence("5: behind LAID none can be");
        FileRounds x = new FileRounds();
        for (int i = 0; i < 5; i++) {
            x.tick(2);
        }
        Due.write(x, "f1,0,1;");
        x.lay();
        Due.is("changes", x.count(8), 0);
        Due.is("undo()", x.undo(), NO);
        Due.is("FILES", x.count(0), 1);
        Due.is("TICKS", x.count(1), 0);
        x.tick(4);
        Due.is("undo() of a later one", x.undo(), 0);
        Due.is("TICKS then", x.count(1), 0);
        Due.is("undo() once more", x.undo(), NO);
        Due.is("FILES still", x.count(0), 1);
    }

    private static void theTextStays() {
        Due.sentence("5: LAID, THE TEXT stays");
        FileRounds x = Due.laid("f1,0,1;");
        Due.is("letters", x.count(9), 7);
        Due.write(x, "f2,0,1;");
        Due.is("lay() with more behind it", x.lay(), 2);
        Due.is("NEED of the first", x.file(0, 0), 1);
        Due.is("NEED of the second", x.file(1, 0), 2);
        x.write('x');
        Due.is("a FAULT told while laid", x.fault(), 14);
        Due.is("FILES stay", x.count(0), 2);
        Due.is("wipe()", x.wipe(), 15);
        Due.is("FILES stay still", x.count(0), 2);
        Due.is("and work", x.tick(7), 5);
    }

    private static void fewerFilesThanBefore() {
        Due.sentence("5: FILES such as there are");
        FileRounds x = Due.laid("f1,0,1;f1,0,2;f1,0,9;t3,5;");
        x.join(0);
        x.tick(5);
        x.wipe();
        Due.write(x, "f1,0,1;f2,0,2;");
        Due.is("lay() of two", x.lay(), 2);
        Due.is("WEIGHTS together", x.count(7), 3);
        Due.is("file(2, 0)", x.file(2, 0), BAD);
        Due.is("renew(2)", x.renew(2), BAD);
        Due.is("join(0)", x.join(0), 0);
        x.tick(6);
        Due.is("WHOLE of both alone", x.listener(0, 4), 3);
    }
}
