/** Promise 11: undo. */
public final class Promise11UndoTest {
    private static final int NO = FileRounds.NO;

    public static void main(String[] args) {
        nothingToUndo();
        behindLaidNone();
        eachKindOfChange();
        ticksOfOneCallAtOnce();
        theLastFour();
        howManyMore();
        newChangesBehindUndo();
        aRefusedOneChangesNothing();
        refusedCallsAreNoChange();
        questionsAreNoChange();
        theTextIsNoChange();
        notItselfAChange();
        Due.end();
    }

    private static void nothingToUndo() {
        Due.sentence("11: NO, nothing was changed");
        FileRounds x = new FileRounds();
        Due.is("undo()", x.undo(), NO);
        x.tick(1);
        Due.is("undo() of one", x.undo(), 0);
        Due.is("undo() again", x.undo(), NO);
        Due.is("undo() once more", x.undo(), NO);
        Due.is("changes", x.count(8), 0);
    }

    private static void behindLaidNone() {
        Due.sentence("11: behind LAID none can be");
        FileRounds x = new FileRounds();
        x.tick(5);
        x.renew(0);
        Due.write(x, "f1,0,1;");
        Due.is("lay()", x.lay(), 1);
        Due.is("undo()", x.undo(), NO);
        Due.is("FILES", x.count(0), 1);
        Due.is("TICKS", x.count(1), 0);
        Due.is("VERSION", x.file(0, 3), 0);
        // A refused one leaves the changes as they are.
        FileRounds y = new FileRounds();
        y.tick(5);
        Due.is("lay() of nothing", y.lay(), NO);
        Due.is("undo() behind it", y.undo(), 0);
        Due.is("TICKS behind it", y.count(1), 0);
    }

    /** An object with the first so many of some changes, one of each kind among them. */
    private static FileRounds changed(int changes) {
        FileRounds x = new FileRounds();
        int[] due = {0, 1, 21, 3, 11, 1, 2, 2, 23};
        for (int i = 0; i < changes; i++) {
            int got;
            switch (i) {
                case 0: got = x.join(0); break;
                case 1: got = x.join(40); break;
                case 2: got = x.tick(27); break;
                case 3: got = x.repair(0, 1); break;
                case 4: got = x.tick(13); break;
                case 5: got = x.renew(1); break;
                case 6: got = x.weigh(2, 8); break;
                case 7: got = x.join(7); break;
                default: got = x.tick(29); break;
            }
            Due.is("change " + i, got, due[i]);
        }
        return x;
    }

    private static void eachKindOfChange() {
        Due.sentence("11: A change: TICKS, a FILE RENEWED, a WEIGHT told anew, a LISTENER more, a FILE REPAIRED");
        for (int changes = 0; changes <= 9; changes++) {
            for (int undone = 0; undone <= 4 && undone <= changes; undone++) {
                FileRounds x = changed(changes);
                for (int i = 1; i <= undone; i++) {
                    Due.is("undo()", x.undo(), Math.min(4, changes) - i);
                }
                String due = Standing.ofWhatIsLaid(changed(changes - undone));
                Due.is(undone + " of " + changes + " undone", Standing.ofWhatIsLaid(x).equals(due) ? 1 : 0, 1);
            }
        }
    }

    private static void ticksOfOneCallAtOnce() {
        Due.sentence("11: (TICKS of one call at once");
        FileRounds x = new FileRounds();
        x.join(0);
        x.tick(1);
        x.tick(99);
        Due.is("changes", x.count(8), 3);
        Due.is("undo()", x.undo(), 2);
        Due.is("TICKS", x.count(1), 1);
        Due.is("TABLES", x.count(5), 1);
        Due.is("SYMBOLS", x.count(6), 0);
        Due.is("what was SENT", x.sent(0, 3), 0);
        Due.is("not more", x.sent(1, 3), FileRounds.NONE);
        Due.is("lives to", x.listener(0, 3), 11);
        Due.is("holds", x.holds(0, 0, 0), 0);
    }

    private static void theLastFour() {
        Due.sentence("11: the last 4 can be");
        FileRounds x = new FileRounds();
        for (int i = 1; i <= 7; i++) {
            x.tick(i);
            Due.is("changes behind " + i, x.count(8), Math.min(i, 4));
        }
        int[] ticks = {21, 15, 10, 6};
        for (int i = 0; i < 4; i++) {
            Due.is("undo()", x.undo(), 3 - i);
            Due.is("TICKS", x.count(1), ticks[i]);
        }
        Due.is("a fifth", x.undo(), NO);
        Due.is("TICKS stay", x.count(1), 6);
    }

    private static void howManyMore() {
        Due.sentence("11: UNDONE: how many more can be");
        for (int changes = 1; changes <= 6; changes++) {
            FileRounds x = new FileRounds();
            for (int i = 0; i < changes; i++) {
                x.renew(0);
            }
            for (int more = Math.min(4, changes) - 1; more >= 0; more--) {
                Due.is("undo()", x.undo(), more);
                Due.is("count(8)", x.count(8), more);
            }
            Due.is("VERSION", x.file(0, 3), Math.max(0, changes - 4));
            Due.is("undo() then", x.undo(), NO);
        }
    }

    private static void newChangesBehindUndo() {
        Due.sentence("11: UNDONE is the latest change");
        FileRounds x = new FileRounds();
        for (int i = 0; i < 6; i++) {
            x.renew(0);
        }
        Due.is("undo()", x.undo(), 3);
        Due.is("undo()", x.undo(), 2);
        for (int i = 1; i <= 3; i++) {
            Due.is("renew(1)", x.renew(1), i);
            Due.is("changes", x.count(8), Math.min(4, 2 + i));
        }
        for (int left = 3; left >= 1; left--) {
            Due.is("undo()", x.undo(), left);
            Due.is("VERSION of 1", x.file(1, 3), left - 1);
            Due.is("VERSION of 0", x.file(0, 3), 4);
        }
        Due.is("undo()", x.undo(), 0);
        Due.is("VERSION of 0", x.file(0, 3), 3);
        Due.is("undo()", x.undo(), NO);
    }

    private static void aRefusedOneChangesNothing() {
        Due.sentence("11: NO; nothing changes then");
        FileRounds x = new FileRounds();
        FileRounds y = new FileRounds();
        for (int i = 0; i < 6; i++) {
            x.tick(7);
        }
        for (int i = 0; i < 5; i++) {
            x.undo();
        }
        y.tick(14);
        Due.is("TICKS", x.count(1), 14);
        boolean same = Standing.ofWhatIsLaid(x).equals(Standing.ofWhatIsLaid(y));
        Due.is("stands as behind the second", same ? 1 : 0, 1);
    }

    private static void refusedCallsAreNoChange() {
        Due.sentence("11: nothing changes then, so there is nothing to undo");
        FileRounds x = new FileRounds();
        x.tick(0);
        x.renew(3);
        x.weigh(0, 3);
        x.weigh(0, 0);
        x.join(100);
        x.repair(0, 0);
        x.undo();
        x.lay();
        Due.is("changes", x.count(8), 0);
        x.join(0);
        x.repair(0, 0);
        x.tick(100);
        Due.is("one change", x.count(8), 1);
        Due.is("undo()", x.undo(), 0);
        Due.is("LISTENERS", x.count(4), 0);
    }

    private static void questionsAreNoChange() {
        Due.sentence("11: All that is asked");
        FileRounds x = new FileRounds();
        x.join(30);
        x.tick(17);
        String before = Standing.of(x);
        Due.is("asked twice", Standing.of(x).equals(before) ? 1 : 0, 1);
        Due.is("changes", x.count(8), 2);
        Due.is("undo()", x.undo(), 1);
        Due.is("TICKS", x.count(1), 0);
    }

    private static void theTextIsNoChange() {
        Due.sentence("11: THE TEXT is none of the changes");
        FileRounds x = new FileRounds();
        x.tick(5);
        Due.write(x, "f1,0,1;");
        Due.is("changes", x.count(8), 1);
        Due.is("undo()", x.undo(), 0);
        Due.is("letters", x.count(9), 7);
        Due.is("TICKS", x.count(1), 0);
    }

    private static void notItselfAChange() {
        Due.sentence("11: UNDONE is no change itself");
        FileRounds x = new FileRounds();
        x.tick(3);
        x.tick(4);
        Due.is("undo()", x.undo(), 1);
        Due.is("undo() goes on back", x.undo(), 0);
        Due.is("TICKS", x.count(1), 0);
    }
}
