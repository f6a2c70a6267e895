/** How an object stands, as a text: all that can be asked of it, in some 230 calls at most. */
final class Standing {
    private Standing() {
    }

    static String of(FileRounds x) {
        StringBuilder b = new StringBuilder("count");
        for (int what = 0; what < 10; what++) {
            b.append(' ').append(x.count(what));
        }
        b.append(" fault ").append(x.fault()).append(ofWhatIsLaid(x));
        return b.toString();
    }

    /** The same but THE TEXT and how many changes can be UNDONE. */
    static String ofWhatIsLaid(FileRounds x) {
        StringBuilder b = new StringBuilder();
        for (int what = 0; what < 8; what++) {
            b.append(' ').append(x.count(what));
        }
        int files = x.count(0);
        int listeners = x.count(4);
        for (int f = 0; f < files; f++) {
            b.append(" file").append(f);
            for (int what = 0; what < 8; what++) {
                b.append(' ').append(x.file(f, what));
            }
            b.append(' ').append(x.waits(f, 3)).append(' ').append(x.mean(f, 2, 0));
        }
        for (int k = 0; k < 10; k++) {
            b.append(" sent").append(k);
            for (int what = 0; what < 4; what++) {
                b.append(' ').append(x.sent(k, what));
            }
        }
        for (int l = 0; l < listeners; l++) {
            b.append(ofListener(x, l, files));
        }
        return b.toString();
    }

    private static String ofListener(FileRounds x, int l, int files) {
        StringBuilder b = new StringBuilder(" listener").append(l);
        for (int what = 0; what < 6; what++) {
            b.append(' ').append(x.listener(l, what));
        }
        for (int f = 0; f < files; f++) {
            for (int what = 0; what < 3; what++) {
                b.append(' ').append(x.holds(l, f, what));
            }
        }
        return b.toString();
    }

    /** Undoes one change, so that a look behind it is had, too; the object is spent then. */
    static String ofTheChangeBefore(FileRounds x) {
        StringBuilder b = new StringBuilder(" undo ").append(x.undo());
        for (int what = 0; what < 10; what++) {
            b.append(' ').append(x.count(what));
        }
        return b.toString();
    }
}
