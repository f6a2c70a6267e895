/** Long runs of calls, drawn by a fixed rule, each answered by the program and by the plain model alike. */
public final class ModelTest {
    private static final int RUNS = 700;
    private static final int CALLS = 512;
    private static final String LETTERS = "ft0123456789,; x";

    private long seed;
    private final FileRounds program = new FileRounds();
    private final PlainModel model = new PlainModel();
    private final int run;
    // Some runs tick seldom, so that changes without TICKS stand close together.
    private final int ticksOften;
    private int calls = 0;

    private ModelTest(int number) {
        run = number;
        seed = 88172645463325252L + 7919L * number;
        ticksOften = draw(3);
    }

    public static void main(String[] args) {
        for (int run = 0; run < RUNS && Due.wrongSoFar() == 0; run++) {
            new ModelTest(run).go();
        }
        Due.end();
    }

    private int draw(int below) {
        seed = seed * 6364136223846793005L + 1442695040888963407L;
        return (int) Math.floorMod(seed >>> 33, (long) below);
    }

    /** A number from low to high, or now and then one that lies outside. */
    private int near(int low, int high) {
        int kind = draw(40);
        if (kind == 0) {
            return low - 1;
        }
        if (kind == 1) {
            return high + 1;
        }
        if (kind == 2) {
            return draw(2) == 0 ? Integer.MIN_VALUE : Integer.MAX_VALUE;
        }
        return kind == 3 ? low : kind == 4 ? high : low + draw(high - low + 1);
    }

    private void go() {
        if (run % 3 != 0) {
            layNewText();
        }
        while (calls < CALLS) {
            int kind = draw(100);
            if (kind < 1 && run % 4 == 0 && calls < CALLS - 150) {
                layNewText();
            } else if (kind < 45) {
                changeOne();
            } else {
                askOne();
            }
        }
    }

    private void due(String call, int got, int want) {
        calls++;
        Due.is("run " + run + ", call " + calls + ": " + call, got, want);
    }

    private String newText() {
        StringBuilder b = new StringBuilder();
        int items = 1 + draw(8);
        for (int i = 0; i < items; i++) {
            if (draw(4) == 0) {
                b.append('t').append(near(3, 20) % 1000).append(',').append(near(1, draw(2) == 0 ? 99 : 9) % 1000);
            } else {
                b.append('f').append(1 + draw(12)).append(',').append(draw(7)).append(',').append(1 + draw(9));
            }
            b.append(';');
        }
        if (draw(4) == 0) {
            b.setCharAt(draw(b.length()), LETTERS.charAt(draw(LETTERS.length())));
        }
        return b.toString();
    }

    private void layNewText() {
        due("wipe()", program.wipe(), model.wipe());
        String text = newText();
        for (int i = 0; i < text.length(); i++) {
            int letter = text.charAt(i);
            due("write(" + letter + ")", program.write(letter), model.write(letter));
            if (draw(8) == 0) {
                due("fault()", program.fault(), model.fault());
            }
        }
        due("fault() of " + text, program.fault(), model.fault());
        due("lay() of " + text, program.lay(), model.lay());
    }

    private void changeOne() {
        int files = model.count(0);
        int kind = draw(12);
        if (kind < 3 + ticksOften) {
            int n = draw(3) == 0 ? near(1, 99) : 1 + draw(9);
            due("tick(" + n + ")", program.tick(n), model.tick(n));
        } else if (kind == 6) {
            int f = near(0, files - 1);
            due("renew(" + f + ")", program.renew(f), model.renew(f));
        } else if (kind == 7) {
            int f = near(0, files - 1);
            int w = near(1, 9);
            due("weigh(" + f + ", " + w + ")", program.weigh(f, w), model.weigh(f, w));
        } else if (kind == 8) {
            int p = draw(2) == 0 ? near(0, 99) : draw(30);
            due("join(" + p + ")", program.join(p), model.join(p));
        } else if (kind == 9) {
            int l = near(0, Math.max(0, model.count(4) - 1));
            int f = near(0, files - 1);
            due("repair(" + l + ", " + f + ")", program.repair(l, f), model.repair(l, f));
        } else if (kind == 10) {
            due("undo()", program.undo(), model.undo());
        } else {
            int letter = near(32, 126);
            due("write(" + letter + ")", program.write(letter), model.write(letter));
        }
    }

    private void askOne() {
        int f = near(0, model.count(0) - 1);
        int l = near(0, Math.max(0, model.count(4) - 1));
        int kind = draw(40);
        if (kind < 9) {
            int what = near(0, 7);
            due("file(" + f + ", " + what + ")", program.file(f, what), model.file(f, what));
        } else if (kind < 15) {
            int k = near(0, 9);
            int what = near(0, 3);
            due("sent(" + k + ", " + what + ")", program.sent(k, what), model.sent(k, what));
        } else if (kind < 22) {
            int what = near(0, 5);
            due("listener(" + l + ", " + what + ")", program.listener(l, what), model.listener(l, what));
        } else if (kind < 32) {
            int what = near(0, 2);
            due("holds(" + l + ", " + f + ", " + what + ")", program.holds(l, f, what), model.holds(l, f, what));
        } else if (kind < 34) {
            int b = near(0, 99);
            due("waits(" + f + ", " + b + ")", program.waits(f, b), model.waits(f, b));
        } else if (kind < 35) {
            int n = draw(3) == 0 ? near(1, 40) : 1 + draw(5);
            int what = near(0, 2);
            due("mean(" + f + ", " + n + ", " + what + ")", program.mean(f, n, what), model.mean(f, n, what));
        } else {
            int what = near(0, 9);
            due("count(" + what + ")", program.count(what), model.count(what));
        }
    }
}
