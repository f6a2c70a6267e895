/** Promise 4: fault. */
public final class Promise04FaultTest {
    private static final int NONE = FileRounds.NONE;
    private static final String SIX = "f1,0,1;f2,0,1;f3,0,1;f4,0,1;f5,0,1;f6,0,1;";

    public static void main(String[] args) {
        anEmptyText();
        needsTooSmallAndTooLarge();
        sparesTooLarge();
        weightsTooSmallAndTooLarge();
        tablesTooOftenAndTooSeldom();
        livesTooShortAndTooLong();
        oneOrTwoFigures();
        aSignBehindEach();
        otherLetters();
        sixFilesAtMost();
        anyNumberOfTables();
        theFirstOfSeveral();
        placesFromTheFirstToTheLast();
        cutAnywhere();
        anyOneLetterChanged();
        changesNothing();
        Due.end();
    }

    private static int faultOf(String text) {
        FileRounds x = new FileRounds();
        Due.write(x, text);
        return x.fault();
    }

    private static void without(String... texts) {
        for (String text : texts) {
            Due.is("fault of " + text, faultOf(text), NONE);
            Due.is("fault behind t4,5; of " + text, faultOf("t4,5;" + text), NONE);
        }
    }

    /** The item has a FAULT at its first letter, wherever it stands. */
    private static void with(String... items) {
        for (String item : items) {
            Due.is("fault of " + item, faultOf(item), 0);
            Due.is("fault behind f1,0,1; of " + item, faultOf("f1,0,1;" + item), 7);
            Due.is("fault ahead of f1,0,1; of " + item, faultOf(item + "f1,0,1;"), 0);
        }
    }

    private static void anEmptyText() {
        Due.sentence("4: NONE, empty");
        Due.is("fault of nothing", faultOf(""), NONE);
    }

    private static void needsTooSmallAndTooLarge() {
        Due.sentence("4: NEED SYMBOLS (1 to 12)");
        without("f1,1,1;", "f2,1,1;", "f11,1,1;", "f12,1,1;");
        with("f0,1,1;", "f00,1,1;", "f13,1,1;", "f20,1,1;", "f99,1,1;");
    }

    private static void sparesTooLarge() {
        Due.sentence("4: SPARE ones (0 to 6)");
        without("f1,0,1;", "f1,1,1;", "f1,5,1;", "f1,6,1;", "f12,6,1;");
        with("f1,7,1;", "f1,10,1;", "f1,60,1;", "f1,99,1;", "f1,-1,1;");
    }

    private static void weightsTooSmallAndTooLarge() {
        Due.sentence("4: WEIGHT 1 to 9");
        without("f1,1,1;", "f1,1,2;", "f1,1,8;", "f1,1,9;");
        with("f1,1,0;", "f1,1,00;", "f1,1,10;", "f1,1,90;", "f1,1,99;");
    }

    private static void tablesTooOftenAndTooSeldom() {
        Due.sentence("4: a TABLE each E TICKS (3 to 20)");
        without("t3,5;", "t4,5;", "t19,5;", "t20,5;");
        with("t0,5;", "t1,5;", "t2,5;", "t02,5;", "t21,5;", "t30,5;", "t99,5;");
    }

    private static void livesTooShortAndTooLong() {
        Due.sentence("4: LIFE L (1 to 99)");
        without("t3,1;", "t3,2;", "t3,98;", "t3,99;", "t20,1;");
        with("t3,0;", "t3,00;", "t3,100;", "t3,000;");
    }

    private static void oneOrTwoFigures() {
        Due.sentence("4: numbers have one or two figures");
        without("f01,00,01;", "f12,06,09;", "t03,01;", "t05,09;");
        with("f001,1,1;", "f012,1,1;", "f1,001,1;", "f1,000,1;", "f1,1,001;", "t003,5;", "t3,005;");
        with("f,1,1;", "f1,,1;", "f1,1,;", "t,1;", "t3,;", "f,,;", "t,;");
        with("f-1,1,1;", "f+1,1,1;", "f 1,1,1;", "f1 ,1,1;", "f1,1,/;", "f1,1,:;", "f1,1,1 ;", "fa,1,1;", "t3,0x;");
    }

    private static void aSignBehindEach() {
        Due.sentence("4: ITEMS one behind the other, a ; behind each");
        with(";", "f;", "t;", "f1;", "f1,1;", "t3;", "f1,1,1,;", "f1,1,1,1;", "t3,5,1;", "f1;1,1;", "f1,1;1;", "t3;5;");
        with("f1,1,1:", "f1,1,1", "t3,5", "f1.1.1;", "f1,1,1 ", "t3,5,", "f1,1,1,", "t3,5t4,5;", "f1,1,1f1,1,1;");
        Due.is("two ; behind one", faultOf("f1,0,1;;"), 7);
        Due.is("a comma behind one", faultOf("f1,0,1;,"), 7);
        Due.is("a space between", faultOf("f1,0,1; t3,5;"), 7);
        Due.is("a space behind", faultOf("f1,0,1;t3,5; "), 12);
    }

    private static void otherLetters() {
        Due.sentence("4: the first ITEM that is not so");
        with("x", "F1,1,1;", "T3,5;", "g1,1,1;", "e1,1,1;", "s3,5;", "u3,5;", "1,1,1;", "3,5;", " f1,1,1;", "ff1,1,1;");
        with("ft3,5;", "tf1,1,1;", "f3,5;", "t1,1,1;", "t4,1,1;", "~", " ", "f", "t", "0;", ",");
    }

    private static void sixFilesAtMost() {
        Due.sentence("4: (or is one too many); FILES (6 at most)");
        Due.is("six", faultOf(SIX), NONE);
        Due.is("a seventh", faultOf(SIX + "f1,0,1;"), 42);
        Due.is("a seventh and an eighth", faultOf(SIX + "f1,0,1;f1,0,1;"), 42);
        Due.is("a TABLE behind six", faultOf(SIX + "t3,5;"), NONE);
        Due.is("a seventh behind a TABLE", faultOf(SIX + "t3,5;f1,0,1;"), 47);
        Due.is("a wrong seventh", faultOf(SIX + "f0,0,1;"), 42);
        Due.is("a wrong TABLE behind six", faultOf(SIX + "t2,5;f1,0,1;"), 42);
        Due.is("a wrong one ahead of a seventh", faultOf("t3,0;" + SIX + "f1,0,1;"), 0);
        FileRounds x = new FileRounds();
        Due.write(x, SIX + "f1,0,1;");
        Due.is("asked once", x.fault(), 42);
        Due.is("asked again", x.fault(), 42);
    }

    private static void anyNumberOfTables() {
        Due.sentence("4: of several the last one counts");
        Due.is("forty", faultOf("t3,5;".repeat(40)), NONE);
        Due.is("a wrong one that another one ends", faultOf("f1,0,1;t2,5;t3,5;"), 7);
        Due.is("the same twice", faultOf("t3,5;t3,5;"), NONE);
    }

    private static void theFirstOfSeveral() {
        Due.sentence("4: the first letter of the first ITEM that is not so");
        Due.is("of two", faultOf("t3,5;f1,0,0;t2,5;"), 5);
        Due.is("of three", faultOf("f0,0,1;f1,7,1;x"), 0);
        Due.is("a wrong number and no ;", faultOf("t3,5;f1,0,1;f1,0,0"), 12);
        FileRounds x = new FileRounds();
        Due.write(x, "t3,5;f1,0,10;");
        Due.is("before more comes", x.fault(), 5);
        Due.write(x, "f1,0,1;x");
        Due.is("and behind it", x.fault(), 5);
    }

    private static void placesFromTheFirstToTheLast() {
        Due.sentence("4: the place (from 0 on)");
        String most = "t3,5;".repeat(39) + "t8,9";
        Due.is("the very first", faultOf("x" + most), 0);
        Due.is("the fortieth without ;", faultOf(most), 195);
        Due.is("the fortieth with another sign", faultOf(most + ","), 195);
        Due.is("the very last", faultOf("t3,5;".repeat(38) + "t13,45;" + "  ;"), 197);
        String longer = "t3,5;".repeat(38) + "t13,45;" + "t";
        Due.is("one of a single letter", faultOf(longer), 197);
        Due.is("the 200th letter", faultOf("t13,5;".repeat(4) + "t3,5;".repeat(35) + "x"), 199);
        String ahead = "t3,5;".repeat(38);
        for (String last : new String[] {"f12,6,9;t3", "f1,0,1;t3,", "t13,45;t3,", "t13,45;f1,", "t3,5;t13,9", "t3,5;t4,19"}) {
            int place = 191 + last.indexOf(';');
            Due.is("broken off by the 200th letter, " + last, faultOf(ahead + last), place);
        }
        Due.is("a letter alone in the 200th place", faultOf("t13,5;".repeat(4) + "t3,5;".repeat(35) + "f"), 199);
        Due.is("the other one there", faultOf("t13,5;".repeat(4) + "t3,5;".repeat(35) + "t"), 199);
        for (int items = 0; items < 40; items++) {
            Due.is("behind " + items, faultOf("t3,5;".repeat(items) + "x"), 5 * items);
        }
    }

    private static void cutAnywhere() {
        Due.sentence("4: a ; behind each, cut anywhere");
        String text = "f12,6,9;t20,99;";
        for (int length = 0; length <= text.length(); length++) {
            int due = length == 0 || length == 8 || length == 15 ? NONE : length < 8 ? 0 : 8;
            Due.is("fault of " + text.substring(0, length), faultOf(text.substring(0, length)), due);
        }
    }

    private static void anyOneLetterChanged() {
        Due.sentence("4: FAULT, any one letter changed");
        String text = "f12,6,9;t20,99;f1,0,1;";
        for (int place = 0; place < text.length(); place++) {
            for (int letter = 32; letter <= 126; letter++) {
                String other = text.substring(0, place) + (char) letter + text.substring(place + 1);
                PlainModel model = new PlainModel();
                for (int i = 0; i < other.length(); i++) {
                    model.write(other.charAt(i));
                }
                Due.is("fault of " + other, faultOf(other), model.fault());
            }
        }
    }

    private static void changesNothing() {
        Due.sentence("4: All that is asked");
        FileRounds x = new FileRounds();
        FileRounds y = new FileRounds();
        for (FileRounds z : new FileRounds[] {x, y}) {
            z.join(5);
            z.tick(11);
            Due.write(z, "f1,0,1;t3,5;x");
        }
        Due.is("fault()", x.fault(), 12);
        Due.is("fault() again", x.fault(), 12);
        Due.alike("behind it", x, y);
        Due.is("FILES", x.count(0), 3);
        Due.is("E", x.count(2), 5);
    }
}
