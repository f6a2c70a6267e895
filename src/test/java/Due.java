/** Counts the answers of one test and tells those that are not as due. */
final class Due {
    private static int asked = 0;
    private static int wrong = 0;

    private Due() {
    }

    static void is(String call, long got, long want) {
        asked++;
        if (got != want) {
            wrong++;
            if (wrong <= 40) {
                System.out.println(call + " answered " + got + ", due is " + want);
            }
        }
    }

    /** Writes letters behind THE TEXT. */
    static void write(FileRounds x, String letters) {
        for (int i = 0; i < letters.length(); i++) {
            x.write(letters.charAt(i));
        }
    }

    /** A new object with a text that is laid. */
    static FileRounds laid(String text) {
        FileRounds x = new FileRounds();
        write(x, text);
        is("lay() of " + text, x.lay() < 0 ? 0 : 1, 1);
        return x;
    }

    static int wrongSoFar() {
        return wrong;
    }

    static void end() {
        System.out.println(asked + " answers, " + wrong + " not as due");
        if (wrong != 0 || asked == 0) {
            System.exit(1);
        }
    }
}
