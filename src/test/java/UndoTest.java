/** Promise 11: undo, for every kind of change. */
public final class UndoTest {
    private static final int NO = FileRounds.NO;

    public static void main(String[] args) {
        eachKind();
        onlyFour();
        newChangesBehindUndo();
        refusedCallsAreNoChange();
        joinsAnewBehindUndo();
        questionsAreNoChange();
        textIsNoChange();
        Due.end();
    }

    /** All that can be asked of an object, but THE TEXT and how many changes can be UNDONE. */
    private static String all(FileRounds x) {
        StringBuilder b = new StringBuilder();
        for (int what = 0; what < 8; what++) {
            b.append(x.count(what)).append(' ');
            for (int f = 0; f < 3; f++) {
                b.append(x.file(f, what)).append(' ');
            }
            for (int l = 0; l < 4; l++) {
                b.append(x.listener(l, what)).append(' ');
            }
        }
        for (int what = 0; what < 4; what++) {
            for (int k = 0; k < 10; k++) {
                b.append(x.sent(k, what)).append(' ');
            }
            for (int l = 0; l < 4; l++) {
                for (int f = 0; f < 3; f++) {
                    b.append(x.holds(l, f, what)).append(' ');
                }
            }
        }
        for (int f = 0; f < 3; f++) {
            b.append(x.waits(f, 3)).append(' ').append(x.mean(f, 5, 0)).append(' ');
        }
        return b.toString();
    }

    /** An object with the first so many of some changes, one of each kind among them. */
    private static FileRounds changed(int changes) {
        FileRounds x = new FileRounds();
        int[] due = {0, 1, 21, 3, 11, 1, 2, 2, 23};
        for (int i = 0; i < changes; i++) {
            int got;
            switch (i) {
                case 0: got = x.join(0); break;
                case 1: got = x.join(40); break;
                case 2: got = x.tick(27); break;
                case 3: got = x.repair(0, 1); break;
                case 4: got = x.tick(13); break;
                case 5: got = x.renew(1); break;
                case 6: got = x.weigh(2, 8); break;
                case 7: got = x.join(7); break;
                default: got = x.tick(29); break;
            }
            Due.is("change " + i, got, due[i]);
        }
        return x;
    }

    private static void eachKind() {
        for (int changes = 0; changes <= 9; changes++) {
            for (int undone = 0; undone <= 4 && undone <= changes; undone++) {
                FileRounds x = changed(changes);
                for (int i = 1; i <= undone; i++) {
                    Due.is("undo()", x.undo(), Math.min(4, changes) - i);
                }
                boolean same = all(x).equals(all(changed(changes - undone)));
                Due.is(undone + " of " + changes + " undone", same ? 1 : 0, 1);
            }
        }
    }

    private static void onlyFour() {
        FileRounds x = new FileRounds();
        for (int i = 1; i <= 7; i++) {
            x.tick(i);
            Due.is("changes behind " + i, x.count(8), Math.min(i, 4));
        }
        int[] ticks = {21, 15, 10, 6};
        for (int i = 0; i < 4; i++) {
            Due.is("undo()", x.undo(), 3 - i);
            Due.is("TICKS", x.count(1), ticks[i]);
        }
        Due.is("a fifth", x.undo(), NO);
        Due.is("TICKS stay", x.count(1), 6);
    }

    private static void newChangesBehindUndo() {
        FileRounds x = new FileRounds();
        for (int i = 0; i < 6; i++) {
            x.renew(0);
        }
        Due.is("undo()", x.undo(), 3);
        Due.is("undo()", x.undo(), 2);
        Due.is("renew(1)", x.renew(1), 1);
        Due.is("changes", x.count(8), 3);
        Due.is("renew(1)", x.renew(1), 2);
        Due.is("changes", x.count(8), 4);
        Due.is("renew(1)", x.renew(1), 3);
        Due.is("changes", x.count(8), 4);
        for (int left = 3; left >= 1; left--) {
            Due.is("undo()", x.undo(), left);
            Due.is("VERSION of 1", x.file(1, 3), left - 1);
            Due.is("VERSION of 0", x.file(0, 3), 4);
        }
        Due.is("undo()", x.undo(), 0);
        Due.is("VERSION of 0", x.file(0, 3), 3);
    }

    private static void refusedCallsAreNoChange() {
        FileRounds x = new FileRounds();
        x.tick(0);
        x.renew(3);
        x.weigh(0, 3);
        x.weigh(0, 0);
        x.join(100);
        x.repair(0, 0);
        x.undo();
        Due.is("no change", x.count(8), 0);
        x.join(0);
        x.repair(0, 0);
        Due.is("one change", x.count(8), 1);
        Due.is("undo()", x.undo(), 0);
        Due.is("no LISTENER", x.count(4), 0);
        Due.is("join again", x.join(9), 0);
        Due.is("its LOSS", x.listener(0, 0), 9);
    }

    private static void joinsAnewBehindUndo() {
        FileRounds x = new FileRounds();
        x.join(50);
        x.tick(30);
        x.undo();
        x.undo();
        x.tick(31);
        x.join(3);
        int[] due = {3, 31, 0, FileRounds.NONE, 0, 0};
        for (int what = 0; what < 6; what++) {
            Due.is("listener(0, " + what + ")", x.listener(0, what), due[what]);
        }
        for (int f = 0; f < 3; f++) {
            Due.is("holds(0, " + f + ", 0)", x.holds(0, f, 0), 0);
            Due.is("holds(0, " + f + ", 1)", x.holds(0, f, 1), FileRounds.NONE);
        }
    }

    private static void questionsAreNoChange() {
        FileRounds x = new FileRounds();
        x.join(30);
        x.tick(17);
        String before = all(x);
        Due.is("asked twice", all(x).equals(before) ? 1 : 0, 1);
        Due.is("changes", x.count(8), 2);
    }

    private static void textIsNoChange() {
        FileRounds x = new FileRounds();
        x.tick(5);
        Due.write(x, "f1,0,1;");
        Due.is("changes", x.count(8), 1);
        Due.is("undo()", x.undo(), 0);
        Due.is("THE TEXT stays", x.count(9), 7);
        x.tick(5);
        Due.is("lay()", x.lay(), 1);
        Due.is("undo() behind LAID", x.undo(), NO);
        Due.is("TICKS", x.count(1), 0);
    }
}
