/** Promise 2: write. */
public final class Promise02WriteTest {
    private static final int BAD = FileRounds.BAD;
    private static final int FULL = FileRounds.FULL;

    public static void main(String[] args) {
        everyLetterThatIsOne();
        lettersTooSmall();
        lettersTooLarge();
        comesBehindTheText();
        aBadLetterChangesNothing();
        twoHundredAtMost();
        fullChangesNothing();
        badAheadOfFull();
        Due.end();
    }

    private static void everyLetterThatIsOne() {
        Due.sentence("2: A letter (32 to 126, as in ASCII)");
        FileRounds x = new FileRounds();
        for (int letter = 32; letter <= 126; letter++) {
            Due.is("write(" + letter + ")", x.write(letter), letter - 31);
        }
        Due.is("write(32) again", x.write(32), 96);
        Due.is("write(126) again", x.write(126), 97);
    }

    private static void lettersTooSmall() {
        Due.sentence("2: BAD, below 32");
        FileRounds x = new FileRounds();
        for (int letter : new int[] {31, 10, 9, 1, 0, -1, -32, -102, -126, Integer.MIN_VALUE, Integer.MIN_VALUE + 102}) {
            Due.is("write(" + letter + ")", x.write(letter), BAD);
        }
        Due.is("letters", x.count(9), 0);
    }

    private static void lettersTooLarge() {
        Due.sentence("2: BAD, above 126");
        FileRounds x = new FileRounds();
        for (int letter : new int[] {127, 128, 233, 255, 256 + 102, 65536 + 102, Integer.MAX_VALUE}) {
            Due.is("write(" + letter + ")", x.write(letter), BAD);
        }
        Due.is("letters", x.count(9), 0);
    }

    private static void comesBehindTheText() {
        Due.sentence("2: comes behind THE TEXT: how long it is");
        FileRounds x = new FileRounds();
        String text = "f7,3,8;t9,41;";
        for (int i = 0; i < text.length(); i++) {
            Due.is("write " + text.charAt(i), x.write(text.charAt(i)), i + 1);
            Due.is("letters", x.count(9), i + 1);
        }
        Due.is("lay()", x.lay(), 1);
        Due.is("NEED", x.file(0, 0), 7);
        Due.is("SPARE", x.file(0, 1), 3);
        Due.is("WEIGHT", x.file(0, 2), 8);
        Due.is("E", x.count(2), 9);
        Due.is("LIFE", x.count(3), 41);
        Due.is("behind LAID it is still there", x.write('t'), 14);
    }

    private static void aBadLetterChangesNothing() {
        Due.sentence("2: BAD; nothing changes then");
        FileRounds x = new FileRounds();
        String text = "f7,3,8;";
        for (int i = 0; i < text.length(); i++) {
            x.write(127);
            x.write(text.charAt(i));
            x.write(31);
        }
        FileRounds y = new FileRounds();
        Due.write(y, text);
        Due.alike("with BAD ones between", x, y);
        Due.is("lay()", x.lay(), 1);
    }

    /** A TEXT of 200 letters without FAULT. */
    private static FileRounds fullOfTables() {
        FileRounds x = new FileRounds();
        for (int i = 1; i <= 39; i++) {
            Due.write(x, "t3,5;");
        }
        Due.write(x, "t8,9");
        Due.is("the 200th", x.write(';'), 200);
        return x;
    }

    private static void twoHundredAtMost() {
        Due.sentence("2: FULL: it has 200");
        FileRounds x = new FileRounds();
        for (int i = 1; i <= 200; i++) {
            Due.is("write " + i, x.write(i % 2 == 0 ? 32 : 126), i);
        }
        Due.is("the 201st", x.write(102), FULL);
        Due.is("once more", x.write(102), FULL);
        Due.is("letters", x.count(9), 200);
        x.wipe();
        Due.is("behind wipe", x.write(102), 1);
    }

    private static void fullChangesNothing() {
        Due.sentence("2: FULL; nothing changes then");
        FileRounds x = fullOfTables();
        Due.is("x behind it", x.write('x'), FULL);
        Due.is("; behind it", x.write(';'), FULL);
        Due.alike("with FULL ones behind", x, fullOfTables());
        Due.is("no FAULT", x.fault(), FileRounds.NONE);
    }

    private static void badAheadOfFull() {
        Due.sentence("2: Of several the first in this order");
        FileRounds x = fullOfTables();
        Due.is("write(31)", x.write(31), BAD);
        Due.is("write(127)", x.write(127), BAD);
        Due.is("write(32)", x.write(32), FULL);
        Due.is("write(126)", x.write(126), FULL);
    }
}
