/** Counts the answers of one test and tells those that are not as due, under the sentence they belong to. */
final class Due {
    private static int asked = 0;
    private static int wrong = 0;
    private static String sentence = "";

    private Due() {
    }

    /** The words of the document that the answers from here on stand for. */
    static void sentence(String words) {
        sentence = words + " | ";
    }

    static void is(String call, long got, long want) {
        asked++;
        if (got != want) {
            wrong++;
            if (wrong <= 40) {
                System.out.println(sentence + call + " answered " + got + ", due is " + want);
            }
        }
    }

    /** Two objects stand alike in all that can be asked, and go back alike, too. */
    static void alike(String when, FileRounds x, FileRounds y) {
        asked++;
        String got = Standing.of(x) + Standing.ofTheChangeBefore(x);
        String want = Standing.of(y) + Standing.ofTheChangeBefore(y);
        if (!got.equals(want)) {
            wrong++;
            System.out.println(sentence + when + " stands\n  " + got + "\ndue is\n  " + want);
        }
    }

    /** Writes letters behind THE TEXT. */
    static void write(FileRounds x, String letters) {
        for (int i = 0; i < letters.length(); i++) {
            x.write(letters.charAt(i));
        }
    }

    /** A new object with a text that is laid. */
    static FileRounds laid(String text) {
        FileRounds x = new FileRounds();
        write(x, text);
        is("lay() of " + text, x.lay() < 0 ? 0 : 1, 1);
        return x;
    }

    static int wrongSoFar() {
        return wrong;
    }

    static void end() {
        System.out.println(asked + " answers, " + wrong + " not as due");
        if (wrong != 0 || asked == 0) {
            System.exit(1);
        }
    }
}
