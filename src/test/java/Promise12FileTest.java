/** Promise 12: file. */
public final class Promise12FileTest {
    private static final int NONE = FileRounds.NONE;
    private static final int BAD = FileRounds.BAD;

    public static void main(String[] args) {
        numbersThatAreNoFile();
        numbersThatAreNotAsked();
        asLaid();
        asItStands();
        creditsBelowAndAbove();
        sentOfAllVersions();
        noSymbolWasSent();
        partsOfAll();
        partsAsFloats();
        Due.end();
    }

    private static void numbersThatAreNoFile() {
        Due.sentence("12: BAD, of FILES");
        FileRounds x = new FileRounds();
        for (int f : new int[] {-1, 3, 4, 5, 6, Integer.MIN_VALUE, Integer.MAX_VALUE}) {
            for (int what = -1; what <= 8; what++) {
                Due.is("file(" + f + ", " + what + ")", x.file(f, what), BAD);
            }
        }
        FileRounds y = Due.laid("f1,0,1;f1,0,1;f1,0,1;f1,0,1;f1,0,1;f9,0,1;");
        Due.is("file(5, 0)", y.file(5, 0), 9);
        Due.is("file(6, 0)", y.file(6, 0), BAD);
        FileRounds z = Due.laid("f9,0,1;");
        Due.is("file(0, 0) of one", z.file(0, 0), 9);
        Due.is("file(1, 0) of one", z.file(1, 0), BAD);
    }

    private static void numbersThatAreNotAsked() {
        Due.sentence("12: BAD, of what");
        FileRounds x = new FileRounds();
        x.tick(9);
        for (int what : new int[] {-1, 8, 9, 10, Integer.MIN_VALUE, Integer.MAX_VALUE}) {
            Due.is("file(0, " + what + ")", x.file(0, what), BAD);
        }
        Due.is("file(0, 7)", x.file(0, 7) > 0 ? 1 : 0, 1);
    }

    private static void asLaid() {
        Due.sentence("12: NEED (what = 0), SPARE (1), WEIGHT (2)");
        FileRounds x = Due.laid("f1,6,9;f12,0,1;f5,3,4;");
        int[][] due = {{1, 6, 9}, {12, 0, 1}, {5, 3, 4}};
        x.tick(50);
        x.renew(1);
        for (int f = 0; f < 3; f++) {
            for (int what = 0; what < 3; what++) {
                Due.is("file(" + f + ", " + what + ")", x.file(f, what), due[f][what]);
            }
        }
    }

    private static void asItStands() {
        Due.sentence("12: WEIGHT (2), VERSION (3), the SYMBOL that it sends next (4), SENT (6), as it stands then");
        FileRounds x = new FileRounds();
        x.tick(10);
        int[][] due = {{4, 2, 3, 0, 4, 1000, 4}, {6, 0, 1, 0, 1, 1002, 1}, {2, 1, 2, 0, 0, 998, 3}};
        for (int f = 0; f < 3; f++) {
            for (int what = 0; what < 7; what++) {
                Due.is("file(" + f + ", " + what + ")", x.file(f, what), due[f][what]);
            }
        }
        x.weigh(1, 9);
        x.renew(0);
        Due.is("WEIGHT told anew", x.file(1, 2), 9);
        Due.is("VERSION", x.file(0, 3), 1);
        Due.is("next", x.file(0, 4), 0);
        x.undo();
        Due.is("next undone", x.file(0, 4), 4);
        Due.is("VERSION undone", x.file(0, 3), 0);
    }

    private static void creditsBelowAndAbove() {
        Due.sentence("12: CREDIT and 1000 (5)");
        FileRounds x = Due.laid("f1,0,9;f1,0,9;f1,0,9;f1,0,9;f1,0,9;f1,0,1;t20,1;");
        int lowest = 1000;
        int greatest = 1000;
        x.tick(1);
        for (int t = 0; t < 18; t++) {
            x.tick(1);
            int together = 0;
            for (int f = 0; f < 6; f++) {
                int credit = x.file(f, 5);
                together += credit - 1000;
                lowest = Math.min(lowest, credit);
                greatest = Math.max(greatest, credit);
            }
            Due.is("CREDITS together", together, 0);
        }
        // Behind five SYMBOLS the five stand at -1 and the sixth at 5, so the next one falls to 8 less 46.
        Due.is("the lowest", lowest, 1000 - 38);
        // Behind eleven, the last of FILE 5, the five stand at 7; FILE 4 has four times 9 more until it sends.
        Due.is("the greatest", greatest, 1000 + 43);
    }

    private static void sentOfAllVersions() {
        Due.sentence("12: how many of its SYMBOLS were SENT, of all VERSIONS (6)");
        FileRounds x = Due.laid("f3,0,1;t20,1;");
        x.tick(5);
        Due.is("of one", x.file(0, 6), 4);
        x.renew(0);
        Due.is("right behind", x.file(0, 6), 4);
        x.tick(3);
        Due.is("of two", x.file(0, 6), 7);
        Due.is("PART", x.file(0, 7), Float.floatToIntBits(1f));
        x.tick(99);
        Due.is("without TABLES", x.file(0, 6), 101);
        x.undo();
        Due.is("undone", x.file(0, 6), 7);
    }

    private static void noSymbolWasSent() {
        Due.sentence("12: bits of PART (7; NONE: no SYMBOL was SENT)");
        FileRounds x = new FileRounds();
        Due.is("at first", x.file(0, 7), NONE);
        x.tick(1);
        Due.is("a TABLE alone", x.file(0, 7), NONE);
        x.tick(1);
        Due.is("one of one", x.file(0, 7), Float.floatToIntBits(1f));
        Due.is("none of one", x.file(1, 7), 0);
        Due.is("none of one, too", x.file(2, 7), 0);
        x.undo();
        Due.is("undone", x.file(0, 7), NONE);
        x.tick(9);
        Due.write(x, "f1,0,1;");
        x.lay();
        Due.is("behind lay", x.file(0, 7), NONE);
        Due.is("BAD first", x.file(1, 7), BAD);
    }

    private static void partsOfAll() {
        Due.sentence("12: how many of its SYMBOLS were SENT by how many of all");
        FileRounds x = new FileRounds();
        x.tick(3);
        Due.is("half", x.file(0, 7), Float.floatToIntBits(0.5f));
        x.tick(1);
        Due.is("two of three", x.file(0, 7), Float.floatToIntBits(2f / 3f));
        Due.is("one of three", x.file(2, 7), Float.floatToIntBits(1f / 3f));
        x.tick(1);
        Due.is("one of four", x.file(1, 7), Float.floatToIntBits(0.25f));
        x.tick(1);
        Due.is("a TABLE more", x.file(1, 7), Float.floatToIntBits(0.25f));
        x.renew(1);
        Due.is("RENEWED", x.file(1, 7), Float.floatToIntBits(0.25f));
    }

    private static void partsAsFloats() {
        Due.sentence("12: both as floats, as a float; as by Float.floatToIntBits");
        FileRounds x = Due.laid("f1,0,9;f1,0,1;f1,0,7;t20,99;");
        int all = 0;
        for (int i = 0; i < 101; i++) {
            all += x.tick(99);
            float part = (float) x.file(i % 3, 6) / (float) all;
            Due.is("PART of " + i % 3 + " of " + all, x.file(i % 3, 7), Float.floatToIntBits(part));
        }
        // The smallest PART that a long run makes: 1 of the WEIGHTS, and 45 beside it.
        FileRounds y = Due.laid("f1,0,1;f1,0,9;f1,0,9;f1,0,9;f1,0,9;f1,0,9;t20,99;");
        for (int t = 0; t < 60; t++) {
            y.tick(1);
            if (y.count(6) > 0) {
                float part = (float) y.file(0, 6) / (float) y.count(6);
                Due.is("PART behind " + t, y.file(0, 7), Float.floatToIntBits(part));
            }
        }
    }
}
