/** Promises 1 to 5: a new object, write, wipe, fault, lay. */
public final class TextTest {
    public static void main(String[] args) {
        newObject();
        writeAndWipe();
        faultsOfOneItem();
        itemsWithoutFault();
        faultsFurtherOn();
        layRefuses();
        layBeginsAnew();
        layWithoutTable();
        fewerLettersAndFiles();
        Due.end();
    }

    private static void newObject() {
        FileRounds x = new FileRounds();
        int[][] files = {{4, 2, 3}, {6, 0, 1}, {2, 1, 2}};
        int[] counts = {3, 0, 5, 12, 0, 0, 0, 6, 0, 0};
        for (int what = 0; what < counts.length; what++) {
            Due.is("new: count(" + what + ")", x.count(what), counts[what]);
        }
        for (int f = 0; f < 3; f++) {
            for (int what = 0; what < 3; what++) {
                Due.is("new: file(" + f + ", " + what + ")", x.file(f, what), files[f][what]);
            }
            Due.is("new: VERSION", x.file(f, 3), 0);
            Due.is("new: next SYMBOL", x.file(f, 4), 0);
            Due.is("new: CREDIT", x.file(f, 5), 1000);
            Due.is("new: SENT", x.file(f, 6), 0);
            Due.is("new: PART", x.file(f, 7), FileRounds.NONE);
        }
        Due.is("new: fault()", x.fault(), FileRounds.NONE);
        Due.is("new: undo()", x.undo(), FileRounds.NO);
        Due.is("new: sent(0, 3)", x.sent(0, 3), FileRounds.NONE);
        Due.is("new: listener(0, 0)", x.listener(0, 0), FileRounds.BAD);
        Due.is("new: wipe()", x.wipe(), 0);
    }

    private static void writeAndWipe() {
        FileRounds x = new FileRounds();
        int[] bad = {31, 127, 0, -1, 233, Integer.MIN_VALUE, Integer.MAX_VALUE};
        for (int letter : bad) {
            Due.is("write(" + letter + ")", x.write(letter), FileRounds.BAD);
        }
        Due.is("count(9) behind BAD", x.count(9), 0);
        for (int i = 1; i <= 200; i++) {
            Due.is("write " + i, x.write(i % 2 == 0 ? 32 : 126), i);
        }
        Due.is("write 201", x.write(102), FileRounds.FULL);
        Due.is("write BAD when full", x.write(31), FileRounds.BAD);
        Due.is("count(9) when full", x.count(9), 200);
        Due.is("wipe()", x.wipe(), 200);
        Due.is("wipe() again", x.wipe(), 0);
        Due.is("write behind wipe", x.write(102), 1);
    }

    private static int faultOf(String text) {
        FileRounds x = new FileRounds();
        Due.write(x, text);
        return x.fault();
    }

    private static void faultsOfOneItem() {
        String[] wrong = {
            ";", " ", "f", "t", "x", "f;", "t;", "f1", "f1,", "f1,1", "f1,1,", "f1,1,1", "t3", "t3,", "t3,1",
            "f0,1,1;", "f00,1,1;", "f13,1,1;", "f99,1,1;", "f1,7,1;", "f1,10,1;", "f1,1,0;", "f1,1,00;", "f1,1,10;",
            "t2,5;", "t02,5;", "t21,5;", "t99,5;", "t0,5;", "t3,0;", "t3,00;", "t3,100;", "t003,5;", "f001,1,1;",
            "f1,001,1;", "f1,1,001;", "f,1,1;", "f1,,1;", "f1,1,;", "t,1;", "t3,;", "F1,1,1;", "T3,5;", " f1,1,1;",
            "f 1,1,1;", "f1 ,1,1;", "f1,1,1 ;", "f-1,1,1;", "f+1,1,1;", "f1;1,1;", "f1,1;1;", "f1,1,1,1;", "f1,1;",
            "t3,5,1;", "t3;", "f1.1.1;", "t3;5;", "f1,1,1:", "f1,1,/;", "f1,1,:;", "ff1,1,1;", "1,1,1;"};
        for (String text : wrong) {
            Due.is("fault of " + text, faultOf(text), 0);
            Due.is("fault behind f1,0,1; of " + text, faultOf("f1,0,1;" + text), 7);
            Due.is("fault ahead of f1,0,1; of " + text, faultOf(text + "f1,0,1;"), 0);
        }
    }

    private static void itemsWithoutFault() {
        String[] right = {
            "", "f1,0,1;", "f12,6,9;", "f01,00,01;", "f12,06,09;", "t3,1;", "t20,99;", "t03,01;", "t3,99;",
            "t3,5;t4,6;t5,7;", "t3,5;f1,0,1;t4,5;f2,1,2;", "f1,0,1;f1,0,1;f1,0,1;f1,0,1;f1,0,1;f1,0,1;"};
        for (String text : right) {
            Due.is("fault of " + text, faultOf(text), FileRounds.NONE);
        }
    }

    private static void faultsFurtherOn() {
        Due.is("a seventh FILE", faultOf("f1,0,1;f1,0,1;f1,0,1;f1,0,1;f1,0,1;f1,0,1;t3,5;f1,0,1;"), 47);
        Due.is("the first of two", faultOf("t3,5;f1,0,0;t2,5;"), 5);
        Due.is("a table that another one ends", faultOf("f1,0,1;t2,5;t3,5;"), 7);
        StringBuilder most = new StringBuilder();
        for (int i = 0; i < 40; i++) {
            most.append("t3,5;");
        }
        Due.is("forty tables", faultOf(most.toString()), FileRounds.NONE);
        most.setCharAt(199, ',');
        Due.is("the fortieth of them", faultOf(most.toString()), 195);
    }

    private static void layRefuses() {
        FileRounds x = new FileRounds();
        x.join(5);
        x.tick(7);
        String[] texts = {"", "t3,5;", "t3,5;t4,6;", "f1,0,1;x", "f1,0,1;f1,0,1", "f0,0,1;"};
        for (String text : texts) {
            x.wipe();
            Due.write(x, text);
            Due.is("lay() of " + text, x.lay(), FileRounds.NO);
            Due.is("FILES stay", x.count(0), 3);
            Due.is("TICKS stay", x.count(1), 7);
            Due.is("E stays", x.count(2), 5);
            Due.is("LIFE stays", x.count(3), 12);
            Due.is("LISTENERS stay", x.count(4), 1);
            Due.is("changes stay", x.count(8), 2);
            Due.is("THE TEXT stays", x.count(9), text.length());
            Due.is("NEED stays", x.file(1, 0), 6);
        }
    }

    private static void layBeginsAnew() {
        FileRounds x = new FileRounds();
        x.join(0);
        x.tick(33);
        x.renew(0);
        x.weigh(1, 9);
        Due.write(x, "t4,7;f12,6,9;t19,98;f3,0,1;");
        Due.is("lay()", x.lay(), 2);
        int[] counts = {2, 0, 19, 98, 0, 0, 0, 10, 0, 27};
        for (int what = 0; what < counts.length; what++) {
            Due.is("laid: count(" + what + ")", x.count(what), counts[what]);
        }
        int[][] files = {{12, 6, 9, 0, 0, 1000, 0, FileRounds.NONE}, {3, 0, 1, 0, 0, 1000, 0, FileRounds.NONE}};
        for (int f = 0; f < 2; f++) {
            for (int what = 0; what < 8; what++) {
                Due.is("laid: file(" + f + ", " + what + ")", x.file(f, what), files[f][what]);
            }
        }
        Due.is("laid: file(2, 0)", x.file(2, 0), FileRounds.BAD);
        Due.is("laid: sent(0, 0)", x.sent(0, 3), FileRounds.NONE);
        Due.is("laid: listener(0, 0)", x.listener(0, 0), FileRounds.BAD);
        Due.is("laid: undo()", x.undo(), FileRounds.NO);
        x.tick(1);
        x.wipe();
        Due.write(x, "f1,0,1;x");
        Due.is("a FAULT told while laid", x.fault(), 7);
        Due.is("it changes nothing", x.count(0), 2);
        Due.is("nor this", x.file(0, 0), 12);
    }

    private static void layWithoutTable() {
        FileRounds x = Due.laid("f6,6,9;f1,0,1;f1,0,1;f1,0,1;f1,0,1;f1,0,1;");
        Due.is("E without", x.count(2), 6);
        Due.is("LIFE without", x.count(3), 20);
        Due.is("six FILES", x.count(0), 6);
        Due.is("the sixth", x.file(5, 0), 1);
        Due.is("a seventh", x.file(6, 0), FileRounds.BAD);
    }

    private static void fewerLettersAndFiles() {
        FileRounds x = Due.laid("f1,0,1;f1,0,2;f1,0,9;t3,5;");
        x.join(0);
        x.tick(5);
        x.wipe();
        Due.write(x, "f1,0,1");
        Due.is("no ; though one stood there", x.fault(), 0);
        x.write(';');
        Due.write(x, "f2,0,2;");
        Due.is("lay() of two", x.lay(), 2);
        Due.is("WEIGHTS together", x.count(7), 3);
        Due.is("E without", x.count(2), 6);
        Due.is("join(0)", x.join(0), 0);
        x.tick(6);
        Due.is("WHOLE of both alone", x.listener(0, 4), 3);
        Due.is("lay() again", x.lay(), 2);
        Due.is("TICKS anew", x.count(1), 0);
    }
}
