/** Promises 16, 17, 18: waits, mean, count. */
public final class WaitTest {
    private static final int NONE = FileRounds.NONE;
    private static final int BAD = FileRounds.BAD;

    public static void main(String[] args) {
        wrongNumbers();
        oneFile();
        asLongAs400();
        neverWhole();
        asOneWhoListens();
        meansAreFloats();
        noneIfOneIsNone();
        behindTheLastTick();
        counts();
        Due.end();
    }

    private static void wrongNumbers() {
        FileRounds x = new FileRounds();
        int[][] waits = {{-1, 0}, {3, 0}, {0, -1}, {0, 100}, {Integer.MIN_VALUE, 0}, {0, Integer.MAX_VALUE}};
        for (int[] call : waits) {
            Due.is("waits(" + call[0] + ", " + call[1] + ")", x.waits(call[0], call[1]), BAD);
        }
        int[][] means = {
            {-1, 1, 0}, {3, 1, 0}, {0, 0, 0}, {0, -1, 0}, {0, 41, 0}, {0, 1, -1}, {0, 1, 3},
            {Integer.MAX_VALUE, 1, 0}, {0, Integer.MAX_VALUE, 0}, {0, 1, Integer.MIN_VALUE}};
        for (int[] call : means) {
            Due.is("mean" + java.util.Arrays.toString(call), x.mean(call[0], call[1], call[2]), BAD);
        }
        FileRounds never = Due.laid("f1,0,1;t3,1;");
        Due.is("BAD ahead of NONE", never.mean(0, 1, 3), BAD);
        Due.is("and here", never.waits(0, 100), BAD);
    }

    private static void oneFile() {
        FileRounds x = Due.laid("f1,0,1;t3,99;");
        // The TABLE stands in TICKS 0, 3, ..; the SYMBOL right behind it makes the FILE.
        int[] due = {2, 4, 3};
        for (int b = 0; b < 100; b++) {
            Due.is("waits(0, " + b + ")", x.waits(0, b), due[b % 3]);
        }
        x.tick(1);
        for (int b = 0; b < 100; b++) {
            Due.is("waits(0, " + b + ") behind 1", x.waits(0, b), due[(b + 1) % 3]);
        }
        Due.is("waits(0, 99) ahead of a mean", x.waits(0, 99), due[1]);
        x.tick(1);
        Due.is("mean of what stands then", x.mean(0, 1, 2), due[2]);
        x.undo();
        Due.is("mean(0, 2, 0)", x.mean(0, 2, 0), Float.floatToIntBits(3.5f));
        Due.is("mean(0, 2, 1)", x.mean(0, 2, 1), 3);
        Due.is("mean(0, 2, 2)", x.mean(0, 2, 2), 4);
        Due.is("mean(0, 1, 0)", x.mean(0, 1, 0), Float.floatToIntBits(4f));
        Due.is("mean(0, 3, 0)", x.mean(0, 3, 0), Float.floatToIntBits(3f));
    }

    private static void asLongAs400() {
        String text = "f8,0,1;f1,0,9;f1,0,9;f1,0,9;f1,0,6;t3,21;";
        FileRounds x = Due.laid(text);
        boolean last = false;
        boolean firstBeyond = false;
        int longest = 0;
        for (int b = 0; b < 100; b++) {
            int due = waited(x, text, 0, b);
            last |= due == 400;
            longest = due == 400 ? b : longest;
            firstBeyond |= due == 401;
            Due.is("waits(0, " + b + ")", x.waits(0, b), due <= 400 ? due : NONE);
        }
        Due.is("one waits 400", last ? 1 : 0, 1);
        Due.is("one would wait 401", firstBeyond ? 1 : 0, 1);
        x.tick(longest);
        Due.is("mean(0, 1, 2) of 400", x.mean(0, 1, 2), 400);
        Due.is("mean(0, 1, 0) of 400", x.mean(0, 1, 0), Float.floatToIntBits(400f));
    }

    /**
     * What one who really comes waits (up to 450), seen in another object with the same text: in great
     * steps first, the last of which is undone and gone again TICK by TICK, to keep the calls few.
     */
    private static int waited(FileRounds like, String text, int f, int b) {
        FileRounds y = Due.laid(text);
        for (int i = like.count(1) + b; i > 0; i -= 99) {
            y.tick(Math.min(i, 99));
        }
        int came = y.count(1);
        y.join(0);
        int step = 25;
        while (y.count(1) - came < 450) {
            y.tick(step);
            if ((y.listener(0, 4) >> f & 1) == 1) {
                if (step == 1) {
                    return y.count(1) - came;
                }
                y.undo();
                step = 1;
            }
        }
        return NONE;
    }

    private static void neverWhole() {
        FileRounds x = Due.laid("f1,0,1;f1,0,1;t3,1;");
        for (int b = 0; b < 100; b += 9) {
            Due.is("waits(0, " + b + ")", x.waits(0, b), NONE);
        }
        for (int what = 0; what < 3; what++) {
            Due.is("mean(0, 1, " + what + ")", x.mean(0, 1, what), NONE);
        }
        // Only the SYMBOL right behind a TABLE counts, and that is always one of FILE 0.
        FileRounds y = Due.laid("f2,1,1;f1,0,1;t3,2;");
        Due.is("FILE 0", y.waits(0, 0), 5);
        Due.is("FILE 1", y.waits(1, 0), NONE);
    }

    private static void asOneWhoListens() {
        String[] texts = {
            "f4,2,3;f6,0,1;f2,1,2;t5,12;", "f3,3,2;f5,1,5;t7,3;", "f12,6,9;f1,6,1;t20,20;", "f2,0,1;f2,0,1;f2,0,1;t4,2;"};
        for (String text : texts) {
            FileRounds x = Due.laid(text);
            x.tick(23);
            for (int f = 0; f < x.count(0); f++) {
                for (int b = 0; b < 100; b += 11) {
                    Due.is(text + " waits(" + f + ", " + b + ")", x.waits(f, b), waited(x, text, f, b));
                }
            }
        }
    }

    private static void meansAreFloats() {
        FileRounds x = new FileRounds();
        x.tick(3);
        x.weigh(1, 4);
        x.renew(0);
        for (int f = 0; f < 3; f++) {
            int sum = 0;
            int most = 0;
            for (int n = 1; n <= 40; n++) {
                int wait = x.waits(f, n - 1);
                sum += wait;
                most = Math.max(most, wait);
                float mean = (float) sum / (float) n;
                Due.is("mean(" + f + ", " + n + ", 0)", x.mean(f, n, 0), Float.floatToIntBits(mean));
                Due.is("mean(" + f + ", " + n + ", 1)", x.mean(f, n, 1), (int) mean);
                Due.is("mean(" + f + ", " + n + ", 2)", x.mean(f, n, 2), most);
            }
        }
        Due.is("nothing was SENT by it", x.count(6), 2);
        Due.is("TICKS stay", x.count(1), 3);
    }

    private static void noneIfOneIsNone() {
        boolean seen = false;
        for (int need = 1; need <= 12; need++) {
            for (int e = 3; e <= 20; e++) {
                FileRounds x = Due.laid("f" + need + ",0,1;f1,0,9;f1,0,9;f1,0,9;t" + e + ",2;");
                int first = 0;
                while (first < 40 && x.waits(0, first) != NONE) {
                    first++;
                }
                for (int n = 1; n <= 40; n += 3) {
                    boolean none = n > first;
                    seen |= none && first > 0;
                    for (int what = 0; what < 3; what++) {
                        Due.is("mean is none", x.mean(0, n, what) == NONE ? 1 : 0, none ? 1 : 0);
                    }
                }
            }
        }
        Due.is("one none behind others that are not", seen ? 1 : 0, 1);
    }

    private static void behindTheLastTick() {
        FileRounds x = Due.laid("f1,0,1;t3,99;");
        for (int i = 0; i < 101; i++) {
            x.tick(99);
        }
        Due.is("TICKS", x.count(1), 9999);
        Due.is("waits(0, 0)", x.waits(0, 0), 2);
        Due.is("waits(0, 99)", x.waits(0, 99), 2);
        Due.is("mean(0, 40, 2)", x.mean(0, 40, 2), 4);
    }

    private static void counts() {
        FileRounds x = new FileRounds();
        for (int what : new int[] {-1, 10, Integer.MIN_VALUE, Integer.MAX_VALUE}) {
            Due.is("count(" + what + ")", x.count(what), BAD);
        }
        x.join(0);
        x.tick(12);
        x.weigh(0, 9);
        x.write(102);
        int[] due = {3, 12, 5, 12, 1, 3, 9, 12, 3, 1};
        for (int what = 0; what < 10; what++) {
            Due.is("count(" + what + ")", x.count(what), due[what]);
        }
    }
}
