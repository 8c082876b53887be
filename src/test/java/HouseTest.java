/** Promises 1 to 8: a new object, the text, its fault, the house, and what is told of it. */
public final class HouseTest {
    private static final Check CHECK = new Check();

    /** ab and ba are twins; c is the rarest letter of cab; eight letters in the bag, d not among them. */
    private static final String HOUSE = "wabA3wbaB5wcabC9waadA0+a+a+a+b+b+c+c+e^A^C.B.D:AB:AD:CA:DD";

    public static void main(String[] args) {
        newObject();
        writing();
        wiping();
        faults();
        fullFaults();
        houses();
        abouts();
        words();
        letters();
        CHECK.end();
    }

    private static void newObject() {
        CHECK.part("promise 1");
        BagPhrases x = new BagPhrases();
        int[] due = {0, 0, 0, 0, 0, 0, 0, 0, -9, -9, 0, 0, 0, 0};
        for (int what = 0; what < due.length; what++) {
            CHECK.same("about(" + what + ")", due[what], x.about(what));
        }
        for (int letter = 0; letter < 8; letter++) {
            CHECK.same("letter(" + letter + ", 0)", 0, x.letter(letter, 0));
            CHECK.same("letter(" + letter + ", 1)", 0, x.letter(letter, 1));
        }
        for (int kind = 0; kind < 4; kind++) {
            CHECK.same("letter(" + kind + ", 2)", 0, x.letter(kind, 2));
        }
        CHECK.same("seed(1)", 0, x.seed(1));
        CHECK.same("again(0)", -3, x.again(0));
        CHECK.same("again(1)", -3, x.again(1));
        CHECK.same("undo()", -3, x.undo());
    }

    private static void writing() {
        CHECK.part("promise 2");
        BagPhrases x = new BagPhrases();
        CHECK.same("write(-1)", -2, x.write(-1));
        CHECK.same("write(256)", -2, x.write(256));
        CHECK.same("write(0)", 1, x.write(0));
        CHECK.same("write(255)", 2, x.write(255));
        for (int size = 3; size <= 180; size++) {
            CHECK.same("write(97)", size, x.write(97));
        }
        CHECK.same("write(97), the 181st", -4, x.write(97));
        CHECK.same("write(256), the 181st", -2, x.write(256));
        CHECK.same("write(-1), the 181st", -2, x.write(-1));
        CHECK.same("about(12)", 180, x.about(12));
    }

    private static void wiping() {
        CHECK.part("promise 3");
        BagPhrases x = new BagPhrases();
        CHECK.same("wipe()", 0, x.wipe());
        Check.write(x, "wa");
        CHECK.same("wipe()", 2, x.wipe());
        CHECK.same("wipe()", 0, x.wipe());
        CHECK.same("fault() of what is empty", -9, x.fault());
        CHECK.same("write(43)", 1, x.write(43));
    }

    private static void fault(String text, int due) {
        BagPhrases x = new BagPhrases();
        Check.write(x, text);
        CHECK.same("fault() of " + text, due, x.fault());
        CHECK.same("about(12) behind it", text.length(), x.about(12));
        int words = due == -9 ? (int) text.chars().filter(c -> c == 'w').count() : -3;
        CHECK.same("house() of " + text, words, x.house());
    }

    private static void faults() {
        CHECK.part("promise 4");
        fault("", -9);
        fault("w", 1);
        fault("wa", 2);
        fault("wabcdef", 7);
        fault("wabcdefA", 8);
        fault("wabcdefA0", -9);
        fault("wabcdefg", 7);
        fault("wabcdefgA0", 7);
        fault("wA", 1);
        fault("w0", 1);
        fault("wi", 1);
        fault("wa0", 2);
        fault("waE", 2);
        fault("waA/", 3);
        fault("waA:", 3);
        fault("waA9waD0", -9);
        fault("waA9waA9", -9);
        fault("waA99", 4);
        fault("a", 0);
        fault(" ", 0);
        fault("A", 0);
        fault("0", 0);
        fault("+", 1);
        fault("+i", 1);
        fault("+A", 1);
        fault("+h+a+h", -9);
        fault("^", 1);
        fault("^E", 1);
        fault("^a", 1);
        fault("^A^A", 3);
        fault("^D.D", -9);
        fault(".", 1);
        fault(".E", 1);
        fault(".B.B", 3);
        fault(":", 1);
        fault(":A", 2);
        fault(":E", 1);
        fault(":AE", 2);
        fault(":AB:BA", -9);
        fault(":AB:AB", 5);
        fault("+a ", 2);
        fault("+" + (char) 0, 1);
        fault("" + (char) 255, 0);
        fault(":AB^C.DwhA1+h:BA", -9);
    }

    private static String times(String part, int times) {
        return part.repeat(times);
    }

    private static void fullFaults() {
        CHECK.part("promise 4, where a row is full");
        fault(times("waA0", 10), -9);
        fault(times("waA0", 10) + "w", 40);
        fault(times("waA0", 10) + "waA0", 40);
        fault(times("+a", 12), -9);
        fault(times("+a", 12) + "+", 24);
        fault("^A^B^C^D", -9);
        fault("^A^B^C^D^", 8);
        fault("^A^B^C^", 7);
        fault(".D.C.B.A.", 8);
        fault(":CA:CB:CC:CD:C", 13);
        fault(":CA:CB:CC:CD:B", 14);
        fault(":CA:CB:CC:CD:", 13);
        StringBuilder pairs = new StringBuilder();
        for (char kind = 'A'; kind <= 'D'; kind++) {
            for (char next = 'A'; next <= 'D'; next++) {
                pairs.append(':').append(kind).append(next);
            }
        }
        fault(pairs.toString(), -9);
        fault(pairs.substring(3) + ":", 46);
        fault(pairs.substring(3) + ":A", 47);
        fault(pairs.substring(3) + ":B", 46);
        fault(pairs.substring(0, 45) + ":D", 47);
        fault(pairs + ":", 48);
        fault(times("wabcdefA0", 10) + times("+h", 12) + "^A^B^C^D.A.B.C.D" + pairs, -9);
    }

    private static void houses() {
        CHECK.part("promise 5");
        BagPhrases x = Check.house(HOUSE);
        x.put(0);
        x.bar(1);
        x.rank(0, 8);
        x.keep(0);
        x.tell(0);
        x.see(1, 2, 1);
        x.seed(77);
        x.write('?');
        CHECK.same("house() of a fault", -3, x.house());
        CHECK.same("about(1) behind it", 9, x.about(1));
        CHECK.same("about(3) behind it", 2, x.about(3));
        CHECK.same("about(10) behind it", 3, x.about(10));
        CHECK.same("about(13) behind it", 1, x.about(13));
        CHECK.same("word(0, 2) behind it", 8, x.word(0, 2));
        CHECK.same("again(0) behind it", 4, x.again(0));
        x.bar(0);
        Check.write(x, "wghD7+g");
        CHECK.same("house()", 1, x.house());
        int[] due = {1, 1, 1, 0, 0, 0, 0, 0, -9, -9, 0, 1, 7, 0};
        for (int what = 0; what < due.length; what++) {
            CHECK.same("about(" + what + ")", due[what], x.about(what));
        }
        CHECK.same("word(0, 2)", 7, x.word(0, 2));
        CHECK.same("word(1, 0)", -1, x.word(1, 0));
        CHECK.same("letter(0, 2)", 0, x.letter(0, 2));
        CHECK.same("again(0)", -3, x.again(0));
        CHECK.same("undo()", -3, x.undo());
        CHECK.same("seed(0)", 77, x.seed(0));
        CHECK.same("house() again", 1, x.house());
    }

    private static void abouts() {
        CHECK.part("promise 6");
        BagPhrases x = Check.house("wabA3wbaB5wcabC9waadA0waA1+a+a+a+b+b+c+c+e^A^C.B.D");
        CHECK.same("about(6)", 1 | 2 | 4 | 16, x.about(6));
        CHECK.same("about(-1)", -2, x.about(-1));
        CHECK.same("about(14)", -2, x.about(14));
        CHECK.same("about(2)", 4, x.about(2));
        CHECK.same("about(4)", 5, x.about(4));
        CHECK.same("about(5)", 10, x.about(5));
        x.bar(4);
        x.bar(0);
        CHECK.same("about(3)", 17, x.about(3));
        CHECK.same("about(6), barred or not", 1 | 2 | 4 | 16, x.about(6));
        // a a: by two words (0 0) or by one (1), never by 2, which may begin but not end, nor by 3.
        x = Check.house("waA1waaB2waaC3wbA4+a+a^A^B^C.A.B:AA");
        CHECK.same("about(6)", 7, x.about(6));
        CHECK.same("about(7)", 3, x.about(7));
        CHECK.same("about(8)", 1, x.about(8));
        CHECK.same("about(9)", 2, x.about(9));
        x.bar(1);
        CHECK.same("about(7)", 1, x.about(7));
        CHECK.same("about(8)", 2, x.about(8));
        x.bar(0);
        CHECK.same("about(7)", 0, x.about(7));
        CHECK.same("about(8)", -9, x.about(8));
        CHECK.same("about(9)", -9, x.about(9));
    }

    private static void words() {
        CHECK.part("promise 7");
        BagPhrases x = Check.house(HOUSE);
        int[][] due = {
            {2, 0, 3, 0, 1, 2, 2, 3},
            {2, 1, 5, 0, 1, 2, 2, 3},
            {3, 2, 9, 0, 2, 1, 2, 7},
            {3, 0, 0, 0, 3, 1, 0, 9},
        };
        for (int word = 0; word < due.length; word++) {
            for (int what = 0; what < 8; what++) {
                CHECK.same("word(" + word + ", " + what + ")", due[word][what], x.word(word, what));
            }
        }
        CHECK.same("word(4, 0)", -1, x.word(4, 0));
        CHECK.same("word(-1, 0)", -1, x.word(-1, 0));
        CHECK.same("word(4, 8)", -1, x.word(4, 8));
        CHECK.same("word(0, 8)", -2, x.word(0, 8));
        CHECK.same("word(0, -1)", -2, x.word(0, -1));
        x.bar(2);
        CHECK.same("word(2, 3)", 1, x.word(2, 3));
        CHECK.same("word(2, 4), barred or not", 2, x.word(2, 4));
        x.bar(1);
        CHECK.same("word(0, 5), barred or not", 2, x.word(0, 5));
        x.rank(3, 4);
        CHECK.same("word(3, 2)", 4, x.word(3, 2));
        x = Check.house("wabA1wbcA1waabA1wbaaB2wabbA3waaaaaaA1+a+a+a+a+a+a+a+a+a+a+a+a");
        CHECK.same("word(1, 4)", 2, x.word(1, 4));
        CHECK.same("word(0, 4)", 0, x.word(0, 4));
        CHECK.same("word(2, 5): letters as often", 2, x.word(2, 5));
        CHECK.same("word(4, 5): letters as often", 1, x.word(4, 5));
        CHECK.same("word(5, 6)", 2, x.word(5, 6));
        CHECK.same("word(0, 6)", 0, x.word(0, 6));
        // b and d are in one word each: the least of them
        x = Check.house("wdbaA1waA1");
        CHECK.same("word(0, 4)", 1, x.word(0, 4));
        CHECK.same("word(0, 7)", 11, x.word(0, 7));
    }

    private static void letters() {
        CHECK.part("promise 8");
        BagPhrases x = Check.house(HOUSE);
        int[] bag = {3, 2, 2, 0, 1, 0, 0, 0};
        int[] having = {4, 3, 1, 1, 0, 0, 0, 0};
        for (int letter = 0; letter < 8; letter++) {
            CHECK.same("letter(" + letter + ", 0)", bag[letter], x.letter(letter, 0));
            CHECK.same("letter(" + letter + ", 1)", having[letter], x.letter(letter, 1));
        }
        int[] follow = {10, 0, 1, 8};
        for (int kind = 0; kind < 4; kind++) {
            CHECK.same("letter(" + kind + ", 2)", follow[kind], x.letter(kind, 2));
        }
        CHECK.same("letter(4, 2)", -1, x.letter(4, 2));
        CHECK.same("letter(7, 2)", -1, x.letter(7, 2));
        CHECK.same("letter(8, 0)", -1, x.letter(8, 0));
        CHECK.same("letter(-1, 1)", -1, x.letter(-1, 1));
        CHECK.same("letter(8, 3)", -1, x.letter(8, 3));
        CHECK.same("letter(7, 3)", -2, x.letter(7, 3));
        CHECK.same("letter(0, -1)", -2, x.letter(0, -1));
        x.bar(2);
        CHECK.same("letter(2, 1), barred or not", 1, x.letter(2, 1));
    }
}
