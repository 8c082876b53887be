/** The bounds that the document names in promises 1 to 8, a sentence at a time. */
public final class BoundsOfHouseTest {
    private static final Check CHECK = new Check();
    private static final int UNKNOWN = -1, BAD = -2, LATE = -3, FULL = -4, NONE = -9;

    public static void main(String[] args) {
        nothingAtFirst();
        nothingAllowedAtFirst();
        rowsEmptyAtFirst();
        objectsShareNothing();
        lettersWritten();
        textFull();
        badAheadOfFull();
        wiped();
        wipedWhenFull();
        partsNoneOrMore();
        partsInAnyRow();
        signsThatMayCome();
        lettersOfAWord();
        seventhLetter();
        eleventhWord();
        thirteenthPlus();
        beginsButOnce();
        endsButOnce();
        followsButOnce();
        allBegin();
        allEnd();
        allFollowOne();
        allFollowAll();
        notAtItsEnd();
        longestHouse();
        faultIsOnlyAsked();
        faultAskedTwice();
        howManyWords();
        noneBarredThen();
        noDoingsThen();
        rowEmptyThen();
        keptIsGone();
        seenAndSeedStay();
        houseIsAllNew();
        phrasesOfTheHouse();
        houseOfAFault();
        aboutBounds();
        aboutEmpty();
        aboutFull();
        asOftenInTheBag();
        inPhrases();
        inNoPhraseThoughItFits();
        fewestAndMost();
        mostAskedFirst();
        wordBounds();
        wordUnknownFirst();
        wordLeast();
        wordMost();
        rarestOfLikeOnes();
        twins();
        couldBeMade();
        letterBounds();
        kindBounds();
        letterUnknownFirst();
        letterValues();
        CHECK.covered(1, 8);
        CHECK.end();
    }

    // ---- promise 1

    private static void nothingAtFirst() {
        CHECK.sentence(1, "No words, nothing in the bag");
        BagPhrases x = new BagPhrases();
        CHECK.same("about(0)", 0, x.about(0));
        CHECK.same("word(0, 0)", UNKNOWN, x.word(0, 0));
        CHECK.same("about(1)", 0, x.about(1));
        CHECK.same("about(2)", 0, x.about(2));
        for (int letter = 0; letter < 8; letter++) {
            CHECK.same("letter(" + letter + ", 0)", 0, x.letter(letter, 0));
            CHECK.same("take(" + letter + ")", LATE, x.take(letter));
        }
    }

    private static void nothingAllowedAtFirst() {
        CHECK.sentence(1, "nothing allowed");
        BagPhrases x = new BagPhrases();
        CHECK.same("about(4)", 0, x.about(4));
        CHECK.same("about(5)", 0, x.about(5));
        for (int kind = 0; kind < 4; kind++) {
            CHECK.same("letter(" + kind + ", 2)", 0, x.letter(kind, 2));
        }
    }

    private static void rowsEmptyAtFirst() {
        CHECK.sentence(1, "(none at first)");
        BagPhrases x = new BagPhrases();
        CHECK.same("about(3): BARRED", 0, x.about(3));
        CHECK.same("about(10): DOINGS", 0, x.about(10));
        CHECK.same("undo()", LATE, x.undo());
        CHECK.same("about(11): SEEN", 0, x.about(11));
        CHECK.same("unsee()", 0, x.unsee());
        CHECK.same("about(12): THE TEXT", 0, x.about(12));
        CHECK.same("wipe()", 0, x.wipe());
        CHECK.same("about(13): A ROW", 0, x.about(13));
        CHECK.same("clear()", 0, x.clear());
        CHECK.same("again(0)", LATE, x.again(0));
        CHECK.same("again(1)", LATE, x.again(1));
        CHECK.same("seed(0)", 0, x.seed(0));
    }

    private static void objectsShareNothing() {
        CHECK.sentence(1, "A new object");
        BagPhrases used = Check.house(Houses.LONGEST);
        used.bar(0);
        used.tell(0);
        used.see(0, 0, 0);
        used.seed(4);
        used.keep(0);
        BagPhrases x = new BagPhrases();
        int[] due = {0, 0, 0, 0, 0, 0, 0, 0, NONE, NONE, 0, 0, 0, 0};
        for (int what = 0; what < due.length; what++) {
            CHECK.same("about(" + what + ")", due[what], x.about(what));
        }
        CHECK.same("again(0)", LATE, x.again(0));
        CHECK.same("seed(0)", 0, x.seed(0));
        CHECK.same("about(0) of the used one", 10, used.about(0));
    }

    // ---- promise 2

    private static void lettersWritten() {
        CHECK.sentence(2, "A letter (0 .. 255) comes behind THE TEXT: how long it is. BAD");
        BagPhrases x = new BagPhrases();
        CHECK.same("write(-1)", BAD, x.write(-1));
        CHECK.same("write(0)", 1, x.write(0));
        CHECK.same("write(255)", 2, x.write(255));
        CHECK.same("write(256)", BAD, x.write(256));
        CHECK.same("write(the least)", BAD, x.write(Integer.MIN_VALUE));
        CHECK.same("write(the greatest)", BAD, x.write(Integer.MAX_VALUE));
        CHECK.same("write('w' + 256)", BAD, x.write('w' + 256));
        CHECK.same("about(12)", 2, x.about(12));
        x.wipe();
        for (int letter = 0; letter < 180; letter++) {
            CHECK.same("write(" + letter + ")", letter + 1, x.write(letter));
        }
    }

    private static BagPhrases fullText() {
        BagPhrases x = new BagPhrases();
        Check.write(x, Houses.LONGEST + "+");
        return x;
    }

    private static void textFull() {
        CHECK.sentence(2, "FULL: there are 180");
        BagPhrases x = fullText();
        CHECK.same("about(12)", 179, x.about(12));
        CHECK.same("write(43), the 180th", 180, x.write('+'));
        CHECK.same("write(43), the 181st", FULL, x.write('+'));
        CHECK.same("write(43), once more", FULL, x.write('+'));
        CHECK.same("about(12)", 180, x.about(12));
        CHECK.same("fault()", 178, x.fault());
        CHECK.same("wipe()", 180, x.wipe());
        CHECK.same("write(43), with room again", 1, x.write('+'));
    }

    private static void badAheadOfFull() {
        CHECK.sentence(2, "BAD; FULL (of several what is told first)");
        BagPhrases x = fullText();
        x.write('+');
        CHECK.same("write(-1)", BAD, x.write(-1));
        CHECK.same("write(256)", BAD, x.write(256));
        CHECK.same("write(255)", FULL, x.write(255));
        CHECK.same("write(0)", FULL, x.write(0));
    }

    // ---- promise 3

    private static void wiped() {
        CHECK.sentence(3, "THE TEXT is empty: how long it was");
        BagPhrases x = new BagPhrases();
        CHECK.same("wipe() of an empty one", 0, x.wipe());
        x.write('?');
        CHECK.same("fault()", 0, x.fault());
        CHECK.same("wipe()", 1, x.wipe());
        CHECK.same("about(12)", 0, x.about(12));
        CHECK.same("fault()", NONE, x.fault());
        CHECK.same("wipe()", 0, x.wipe());
        BagPhrases y = Check.house(Houses.tenTwins(2));
        y.bar(0);
        y.wipe();
        CHECK.same("about(0): the house stays", 10, y.about(0));
        CHECK.same("about(10): doings stay", 1, y.about(10));
        CHECK.same("many(0)", 81, y.many(0));
    }

    private static void wipedWhenFull() {
        CHECK.sentence(3, "letters (180 at most)");
        BagPhrases x = fullText();
        x.write('+');
        CHECK.same("wipe() of a full one", 180, x.wipe());
        for (int size = 1; size <= 180; size++) {
            CHECK.same("write(43)", size, x.write('+'));
        }
        CHECK.same("wipe() of a full one", 180, x.wipe());
    }

    // ---- promise 4

    private static void fault(String text, int due) {
        BagPhrases x = new BagPhrases();
        Check.write(x, text);
        CHECK.same("fault() of " + text, due, x.fault());
    }

    private static void partsNoneOrMore() {
        CHECK.sentence(4, "A HOUSE is a TEXT: PARTS, none or more");
        fault("", NONE);
        fault("waA0", NONE);
        fault("+a", NONE);
        fault("^A", NONE);
        fault(".A", NONE);
        fault(":AA", NONE);
        fault("waA0waA0", NONE);
        fault("+a+a", NONE);
    }

    private static void partsInAnyRow() {
        CHECK.sentence(4, "PARTS .. in any row");
        String[] parts = {"wabA0", "+a", "^B", ".C", ":AD"};
        int[] row = new int[5];
        for (int code = 0; code < 3125; code++) {
            int used = 0;
            for (int i = 0, rest = code; i < 5; i++, rest /= 5) {
                row[i] = rest % 5;
                used |= 1 << row[i];
            }
            if (used == 31) {
                fault(parts[row[0]] + parts[row[1]] + parts[row[2]] + parts[row[3]] + parts[row[4]], NONE);
            }
        }
    }

    /** Behind a beginning each sign that may come makes the text longer, each other one is the fault. */
    private static void mayCome(String beginning, String signs) {
        for (int sign = 0; sign < 256; sign++) {
            BagPhrases x = new BagPhrases();
            Check.write(x, beginning);
            x.write(sign);
            int fault = x.fault();
            boolean taken = fault != beginning.length();
            CHECK.holds("sign " + sign + " behind " + beginning, taken == signs.indexOf(sign) >= 0);
            CHECK.holds("fault() if it may come", !taken || fault == NONE || fault == beginning.length() + 1);
        }
    }

    private static void signsThatMayCome() {
        CHECK.sentence(4, "LETTERS are a .. h, KINDS A .. D, RANK (a figure), (without blanks ..)");
        mayCome("", "w+^.:");
        mayCome("waA0", "w+^.:");
        mayCome("w", "abcdefgh");
        mayCome("wa", "abcdefghABCD");
        mayCome("wabcde", "abcdefghABCD");
        mayCome("wabcdef", "ABCD");
        mayCome("waA", "0123456789");
        mayCome("+", "abcdefgh");
        mayCome("+h", "w+^.:");
        mayCome("^", "ABCD");
        mayCome("^D", "w+^.:");
        mayCome(".", "ABCD");
        mayCome(".D", "w+^.:");
        mayCome(":", "ABCD");
        mayCome(":D", "ABCD");
        mayCome(":DD", "w+^.:");
    }

    private static void lettersOfAWord() {
        CHECK.sentence(4, "each of 1 .. 6 LETTERS");
        fault("wA0", 1);
        fault("waA0", NONE);
        fault("whhhhhhD9", NONE);
        fault("whhhhhhhD9", 7);
        CHECK.same("word(0, 0) of one", 1, Check.house("waA0").word(0, 0));
        CHECK.same("word(0, 0) of six", 6, Check.house("whhhhhhD9").word(0, 0));
    }

    private static void seventhLetter() {
        CHECK.sentence(4, "so a seventh LETTER of a WORD");
        fault("wabcdef", 7);
        fault("wabcdefa", 7);
        fault("wabcdefgA0", 7);
        fault("waA0waaaaaaa", 11);
        fault("waA0waaaaaaA0", NONE);
    }

    private static void eleventhWord() {
        CHECK.sentence(4, "WORDS are 0, 1, .. (10 at most)");
        fault("waA0".repeat(9) + "w", 37);
        fault("waA0".repeat(10), NONE);
        fault("waA0".repeat(10) + "+a", NONE);
        fault("waA0".repeat(10) + "w", 40);
        fault("waA0".repeat(10) + "waA0", 40);
        fault("waA0".repeat(5) + "+a" + "waA0".repeat(5) + "^Aw", 44);
    }

    private static void thirteenthPlus() {
        CHECK.sentence(4, "a thirteenth +");
        fault("+a".repeat(11) + "+", 23);
        fault("+a".repeat(12), NONE);
        fault("+a".repeat(12) + "+", 24);
        fault("+a".repeat(12) + "+b", 24);
        fault("+a+b+c+d+e+f+g+h+a+b+c+d", NONE);
        fault("+a+b+c+d+e+f+g+h+a+b+c+d+", 24);
        fault("+a+b+c+d+e+fwaA0+g+h+a+b+c+d^A", NONE);
        fault("+a+b+c+d+e+fwaA0+g+h+a+b+c+d^A+", 30);
    }

    private static void beginsButOnce() {
        CHECK.sentence(4, "each KIND BEGINS .. but once");
        for (char kind = 'A'; kind <= 'D'; kind++) {
            fault("^" + kind, NONE);
            fault("^" + kind + "^" + kind, 3);
            fault("^" + kind + "." + kind, NONE);
        }
        fault("^A^B^C^D", NONE);
        fault("^A^B^C^A", 7);
    }

    private static void endsButOnce() {
        CHECK.sentence(4, "each KIND .. ENDS .. but once");
        for (char kind = 'A'; kind <= 'D'; kind++) {
            fault("." + kind, NONE);
            fault("." + kind + "." + kind, 3);
            fault("." + kind + "^" + kind, NONE);
        }
        fault(".A.B.C.D", NONE);
        fault(".A.B.C.B", 7);
    }

    private static void followsButOnce() {
        CHECK.sentence(4, "each pair FOLLOWS but once");
        for (char kind = 'A'; kind <= 'D'; kind++) {
            for (char next = 'A'; next <= 'D'; next++) {
                String pair = ":" + kind + next;
                fault(pair, NONE);
                fault(pair + pair, 5);
                fault(pair + ":" + kind, 5);
                fault(pair + ":" + next + kind, kind == next ? 5 : NONE);
            }
        }
    }

    private static void allBegin() {
        CHECK.sentence(4, "a ^ where all KINDS BEGIN already");
        fault("^A^B^C^", 7);
        fault("^A^B^C^D^", 8);
        fault("^A^B^C^D^A", 8);
        fault("^D^C^B^A.A.B.C.D^", 16);
    }

    private static void allEnd() {
        CHECK.sentence(4, "(a . where all KINDS END already)");
        fault(".A.B.C.", 7);
        fault(".A.B.C.D.", 8);
        fault(".A.B.C.D.A", 8);
        fault("^A^B^C^D.A.B.C.", 15);
    }

    private static void allFollowOne() {
        CHECK.sentence(4, "the first KIND of a pair that all FOLLOW already");
        for (char kind = 'A'; kind <= 'D'; kind++) {
            String three = ":" + kind + "A:" + kind + "B:" + kind + "C";
            String four = three + ":" + kind + "D";
            fault(three + ":" + kind, 11);
            fault(three + ":" + kind + "A", 11);
            fault(four, NONE);
            fault(four + ":", 13);
            fault(four + ":" + kind, 13);
            fault(four + ":" + (char) ('A' + (kind - 'A' + 1) % 4), 14);
        }
    }

    private static void allFollowAll() {
        CHECK.sentence(4, "(a : where all pairs FOLLOW already)");
        for (int gap = 0; gap < 16; gap++) {
            String fifteen = Houses.ALL_PAIRS.substring(0, 3 * gap) + Houses.ALL_PAIRS.substring(3 * gap + 3);
            fault(fifteen + ":", 46);
            fault(fifteen + Houses.ALL_PAIRS.substring(3 * gap, 3 * gap + 3), NONE);
        }
        fault(Houses.ALL_PAIRS + ":", 48);
        fault(Houses.ALL_PAIRS + ":A", 48);
        fault(Houses.ALL_PAIRS + "+", 49);
    }

    private static void notAtItsEnd() {
        CHECK.sentence(4, "its length, if it is only not at its end; NONE: none");
        String[] parts = {"wabcdefA0", "+h", "waD9", "^A", ".D", ":CB", "+h", ":BC"};
        StringBuilder text = new StringBuilder();
        for (String part : parts) {
            for (int i = 0; i < part.length(); i++) {
                fault(text.toString(), i == 0 ? NONE : text.length());
                text.append(part.charAt(i));
            }
        }
        fault(text.toString(), NONE);
    }

    private static void longestHouse() {
        CHECK.sentence(4, "(its length set aside ..)");
        CHECK.same("length of the longest house", 178, Houses.LONGEST.length());
        fault(Houses.LONGEST, NONE);
        fault(Houses.LONGEST.substring(0, 177), 177);
        for (char sign : "w+^.:a".toCharArray()) {
            fault(Houses.LONGEST + sign, 178);
            fault(Houses.LONGEST + sign + sign, 178);
        }
        fault(" ".repeat(180), 0);
        fault(Houses.LONGEST.substring(0, 90) + "+a".repeat(45), 114);
    }

    private static void faultIsOnlyAsked() {
        CHECK.sentence(4, "FAULT; NONE (nothing is read by it)");
        BagPhrases x = Check.house("waA1wbB2+a^A.A");
        Check.write(x, "wcC3wcC3wcC3+h^B");
        CHECK.same("fault()", NONE, x.fault());
        CHECK.same("fault() again", NONE, x.fault());
        CHECK.same("about(0)", 2, x.about(0));
        CHECK.same("about(1)", 1, x.about(1));
        CHECK.same("about(4)", 1, x.about(4));
        CHECK.same("word(1, 2)", 2, x.word(1, 2));
        CHECK.same("about(12)", 16, x.about(12));
    }

    private static void faultAskedTwice() {
        CHECK.sentence(4, "FAULT: .. whatever was asked ahead of it");
        String[] texts = {"w", "wa", "waA", "+", "^", ".", ":", ":A"};
        for (String text : texts) {
            BagPhrases x = new BagPhrases();
            Check.write(x, text);
            CHECK.same("fault() of " + text, text.length(), x.fault());
            CHECK.same("fault() of " + text + ", once more", text.length(), x.fault());
            CHECK.same("house()", LATE, x.house());
            Check.write(x, "+a^A");
            CHECK.same("fault() of another one", NONE, x.fault());
            CHECK.same("house()", 0, x.house());
            CHECK.same("about(1)", 1, x.about(1));
        }
        BagPhrases x = new BagPhrases();
        int[] due = {1, 2, 3, NONE};
        for (int i = 0; i < 4; i++) {
            x.write("waA0".charAt(i));
            CHECK.same("fault(), letter by letter", due[i], x.fault());
        }
    }

    // ---- promise 5

    private static void howManyWords() {
        CHECK.sentence(5, "how many WORDS");
        for (int words = 0; words <= 10; words++) {
            BagPhrases x = new BagPhrases();
            Check.write(x, "waA0".repeat(words) + "+b");
            CHECK.same("house()", words, x.house());
            CHECK.same("about(0)", words, x.about(0));
        }
        BagPhrases x = new BagPhrases();
        CHECK.same("house() of an empty text", 0, x.house());
        Check.write(x, Houses.LONGEST);
        CHECK.same("house() of the longest", 10, x.house());
        CHECK.same("house() once more: THE TEXT stays", 10, x.house());
        CHECK.same("about(12)", 178, x.about(12));
    }

    private static void noneBarredThen() {
        CHECK.sentence(5, "no WORD BARRED");
        BagPhrases x = Check.house(Houses.tenTwins(1));
        for (int word = 0; word < 10; word++) {
            x.bar(word);
        }
        CHECK.same("about(3)", 1023, x.about(3));
        CHECK.same("house()", 10, x.house());
        CHECK.same("about(3)", 0, x.about(3));
        CHECK.same("many(0)", 10, x.many(0));
    }

    private static void noDoingsThen() {
        CHECK.sentence(5, "no DOINGS");
        BagPhrases x = Check.house(Houses.tenTwins(1));
        for (int i = 0; i < 14; i++) {
            x.rank(0, 9);
        }
        CHECK.same("about(10)", 14, x.about(10));
        CHECK.same("house()", 10, x.house());
        CHECK.same("about(10)", 0, x.about(10));
        CHECK.same("undo()", LATE, x.undo());
        CHECK.same("word(0, 2): the rank that was told", 0, x.word(0, 2));
    }

    private static void rowEmptyThen() {
        CHECK.sentence(5, "A ROW empty");
        BagPhrases x = Check.house(Houses.tenTwins(1));
        for (int i = 0; i < 12; i++) {
            x.tell(i % 10);
        }
        CHECK.same("house()", 10, x.house());
        CHECK.same("about(13)", 0, x.about(13));
        CHECK.same("clear()", 0, x.clear());
        CHECK.same("why(0)", 6, x.why(0));
        CHECK.same("tell(0)", 1, x.tell(0));
    }

    private static void keptIsGone() {
        CHECK.sentence(5, "what was kept is gone");
        BagPhrases x = Check.house(Houses.tenTwins(1));
        x.keep(0);
        x.keep(1);
        CHECK.same("house()", 10, x.house());
        CHECK.same("again(0)", LATE, x.again(0));
        CHECK.same("again(1)", LATE, x.again(1));
        CHECK.same("keep(1)", 10, x.keep(1));
        CHECK.same("again(0)", LATE, x.again(0));
        CHECK.same("again(1)", 10, x.again(1));
    }

    private static void seenAndSeedStay() {
        CHECK.sentence(5, "SEEN, THE SEED stay");
        BagPhrases x = Check.house(Houses.tenTwins(1));
        x.seed(-7);
        for (int i = 0; i < 6; i++) {
            x.see(2, i, 0);
        }
        CHECK.same("left(0)", 4, x.left(0));
        CHECK.same("house()", 10, x.house());
        CHECK.same("about(11)", 6, x.about(11));
        CHECK.same("left(0)", 4, x.left(0));
        CHECK.same("left(1)", 6, x.left(1));
        CHECK.same("seed(0)", -7, x.seed(0));
        x.wipe();
        CHECK.same("house() of no words", 0, x.house());
        CHECK.same("unsee()", 6, x.unsee());
    }

    private static void houseIsAllNew() {
        CHECK.sentence(5, "THE TEXT is THE HOUSE");
        BagPhrases x = Check.house(Houses.LONGEST);
        x.wipe();
        CHECK.same("house() of an empty text", 0, x.house());
        int[] due = {0, 0, 0, 0, 0, 0, 0, 0, NONE, NONE, 0, 0, 0, 0};
        for (int what = 0; what < due.length; what++) {
            CHECK.same("about(" + what + ")", due[what], x.about(what));
        }
        for (int kind = 0; kind < 4; kind++) {
            CHECK.same("letter(" + kind + ", 2)", 0, x.letter(kind, 2));
            CHECK.same("letter(" + kind + ", 0)", 0, x.letter(kind, 0));
            CHECK.same("letter(" + kind + ", 1)", 0, x.letter(kind, 1));
        }
        CHECK.same("word(0, 0)", UNKNOWN, x.word(0, 0));
    }

    private static void phrasesOfTheHouse() {
        CHECK.sentence(5, "THE TEXT is THE HOUSE (PHRASES are its own)");
        BagPhrases x = Check.house(Houses.tenTwins(2));
        CHECK.same("many(0)", 100, x.many(0));
        CHECK.same("many(2)", 100, x.many(2));
        CHECK.same("best(0)", 18, x.best(0));
        Check.write(x, Houses.twins(3, 1));
        CHECK.same("house()", 3, x.house());
        CHECK.same("many(0)", 3, x.many(0));
        CHECK.same("many(2)", 0, x.many(2));
        CHECK.same("best(0)", 2, x.best(0));
        CHECK.same("share(0, true)", 1, x.share(0, true));
        CHECK.same("hope(5, false)", 8, x.hope(5, false));
        Check.write(x, Houses.twins(2, 2));
        CHECK.same("house()", 2, x.house());
        CHECK.same("share(0, true)", 2, x.share(0, true));
        CHECK.same("hope(5, false)", 4, x.hope(5, false));
    }

    private static void houseOfAFault() {
        CHECK.sentence(5, "LATE: a FAULT");
        String[] faults = {"w", "wa", "waA", "+", "^", ".", ":", ":A", "?", "waA0wbB0?", "wbB0+b^B^B", "wbB0+"};
        for (String text : faults) {
            BagPhrases x = Check.house("waA5+a^A.A");
            x.bar(0);
            x.keep(0);
            x.tell(0);
            Check.write(x, text);
            CHECK.same("house() of " + text, LATE, x.house());
            CHECK.same("about(0)", 1, x.about(0));
            CHECK.same("about(1)", 1, x.about(1));
            CHECK.same("about(3)", 1, x.about(3));
            CHECK.same("about(4)", 1, x.about(4));
            CHECK.same("about(10)", 1, x.about(10));
            CHECK.same("about(12)", text.length(), x.about(12));
            CHECK.same("about(13)", 1, x.about(13));
            CHECK.same("word(0, 2)", 5, x.word(0, 2));
            CHECK.same("undo()", 0, x.undo());
            CHECK.same("many(0)", 1, x.many(0));
            CHECK.same("again(0)", 1, x.again(0));
        }
    }

    // ---- promise 6

    private static void aboutBounds() {
        CHECK.sentence(6, "WORDS (what = 0) .. WORDS in A ROW (13). BAD");
        BagPhrases x = Check.house(Houses.tenTwins(1));
        CHECK.same("about(-1)", BAD, x.about(-1));
        CHECK.same("about(0)", 10, x.about(0));
        CHECK.same("about(13)", 0, x.about(13));
        CHECK.same("about(14)", BAD, x.about(14));
        CHECK.same("about(the least)", BAD, x.about(Integer.MIN_VALUE));
        CHECK.same("about(the greatest)", BAD, x.about(Integer.MAX_VALUE));
        CHECK.same("about(14) of an empty one", BAD, new BagPhrases().about(14));
    }

    private static void aboutEmpty() {
        CHECK.sentence(6, "each at its least");
        BagPhrases x = Check.house("");
        int[] due = {0, 0, 0, 0, 0, 0, 0, 0, NONE, NONE, 0, 0, 0, 0};
        for (int what = 0; what < due.length; what++) {
            CHECK.same("about(" + what + ")", due[what], x.about(what));
        }
    }

    private static void aboutFull() {
        CHECK.sentence(6, "each at its most");
        BagPhrases x = Check.house("waA0".repeat(10) + "+a+b+c+d+e+f+g+h+h+h+h+h" + Houses.ALL_LET);
        CHECK.same("about(0)", 10, x.about(0));
        CHECK.same("about(1)", 12, x.about(1));
        CHECK.same("about(2)", 8, x.about(2));
        CHECK.same("about(4)", 15, x.about(4));
        CHECK.same("about(5)", 15, x.about(5));
        CHECK.same("about(6)", 1023, x.about(6));
        for (int i = 0; i < 15; i++) {
            x.bar(i % 10);
            x.tell(i % 10);
            x.see(3, 12, 0);
        }
        CHECK.same("about(3)", 992, x.about(3));
        for (int i = 0; i < 5; i++) {
            x.bar(i);
        }
        CHECK.same("about(3)", 1023, x.about(3));
        CHECK.same("about(6): they are WORDS still", 1023, x.about(6));
        CHECK.same("about(7)", 0, x.about(7));
        CHECK.same("about(10)", 14, x.about(10));
        CHECK.same("about(11)", 6, x.about(11));
        CHECK.same("about(13)", 12, x.about(13));
        for (int size = x.about(12); size < 180; size++) {
            x.write('+');
        }
        x.write('+');
        CHECK.same("about(12)", 180, x.about(12));
    }

    private static void asOftenInTheBag() {
        CHECK.sentence(6, "WORDS whose LETTERS are all in THE BAG (6: bits; as often)");
        BagPhrases x = Check.house("waaA0waabA0whaaaahA0whA0+a+b");
        CHECK.same("about(6)", 0, x.about(6));
        x.put(0);
        CHECK.same("about(6), a a b", 1 | 2, x.about(6));
        x.take(1);
        CHECK.same("about(6), a a", 1, x.about(6));
        x.put(0);
        x.put(0);
        x.put(7);
        CHECK.same("about(6), a a a a h", 1 | 8, x.about(6));
        x.put(7);
        CHECK.same("about(6), a a a a h h", 1 | 4 | 8, x.about(6));
        x.take(0);
        CHECK.same("about(6), a a a h h", 1 | 8, x.about(6));
    }

    private static void inPhrases() {
        CHECK.sentence(6, "which are in PHRASES (7: bits)");
        BagPhrases x = Check.house(Houses.tenTwins(1));
        CHECK.same("about(7)", 1023, x.about(7));
        x.bar(9);
        x.bar(0);
        CHECK.same("about(7)", 510, x.about(7));
        x.take(0);
        CHECK.same("about(7) of an empty bag", 0, x.about(7));
        CHECK.same("about(6) of an empty bag", 0, x.about(6));
    }

    private static void inNoPhraseThoughItFits() {
        CHECK.sentence(6, "which are in PHRASES (7: bits): not those that only fit and are let");
        BagPhrases x = Check.house("waaA0waA0wbA0waaaA0+a+a+a+a+b" + Houses.ALL_LET);
        x.bar(1);
        CHECK.same("about(6)", 15, x.about(6));
        CHECK.same("about(7): aaa leaves a", 1 | 4, x.about(7));
        x.bar(2);
        CHECK.same("about(7): b is left", 0, x.about(7));
        x = Check.house("waA0wbB0wbC0+a+b^A.B:AB:AC");
        CHECK.same("about(7): 2 may follow, not end", 1 | 2, x.about(7));
    }

    private static void mostAskedFirst() {
        CHECK.sentence(6, "the most (9; NONE)");
        BagPhrases x = Check.house("waA0waaA0+a+a+a^A.A:AA");
        CHECK.same("about(9), asked first", 3, x.about(9));
        x.put(0);
        CHECK.same("about(9) behind put", 4, x.about(9));
        x.bar(0);
        CHECK.same("about(9) behind bar", 2, x.about(9));
        x.put(0);
        CHECK.same("about(9) of none", NONE, x.about(9));
    }

    private static void fewestAndMost() {
        CHECK.sentence(6, "the fewest WORDS of a PHRASE (8; NONE), the most (9; NONE)");
        BagPhrases x = Check.house("waA0waaaaaaA0+a^A.A:AA");
        CHECK.same("about(8) of one", 1, x.about(8));
        CHECK.same("about(9) of one", 1, x.about(9));
        for (int size = 2; size <= 12; size++) {
            x.put(0);
            CHECK.same("about(8) of " + size, size % 6 + size / 6, x.about(8));
            CHECK.same("about(9) of " + size, size, x.about(9));
        }
        x.bar(0);
        CHECK.same("about(8), aaaaaa alone", 2, x.about(8));
        CHECK.same("about(9), aaaaaa alone", 2, x.about(9));
        x.take(0);
        CHECK.same("about(8) of none", NONE, x.about(8));
        CHECK.same("about(9) of none", NONE, x.about(9));
    }

    // ---- promise 7

    private static void wordBounds() {
        CHECK.sentence(7, "Of a WORD .. (what = 0) .. (7: bits). UNKNOWN; BAD");
        BagPhrases x = Check.house("waB1wbbC2whhhD3");
        CHECK.same("word(-1, 0)", UNKNOWN, x.word(-1, 0));
        CHECK.same("word(0, 0)", 1, x.word(0, 0));
        CHECK.same("word(2, 0)", 3, x.word(2, 0));
        CHECK.same("word(3, 0)", UNKNOWN, x.word(3, 0));
        CHECK.same("word(9, 0)", UNKNOWN, x.word(9, 0));
        CHECK.same("word(10, 0)", UNKNOWN, x.word(10, 0));
        CHECK.same("word(0, -1)", BAD, x.word(0, -1));
        CHECK.same("word(0, 7)", 1, x.word(0, 7));
        CHECK.same("word(0, 8)", BAD, x.word(0, 8));
        CHECK.same("word(the least, 0)", UNKNOWN, x.word(Integer.MIN_VALUE, 0));
        CHECK.same("word(the greatest, 0)", UNKNOWN, x.word(Integer.MAX_VALUE, 0));
        CHECK.same("word(0, the least)", BAD, x.word(0, Integer.MIN_VALUE));
        CHECK.same("word(0, the greatest)", BAD, x.word(0, Integer.MAX_VALUE));
        BagPhrases ten = Check.house(Houses.tenTwins(1));
        CHECK.same("word(9, 2) of ten", 9, ten.word(9, 2));
        CHECK.same("word(10, 2) of ten", UNKNOWN, ten.word(10, 2));
    }

    private static void wordUnknownFirst() {
        CHECK.sentence(7, "UNKNOWN; BAD (of several what is told first)");
        BagPhrases x = Check.house("waB1");
        CHECK.same("word(1, 8)", UNKNOWN, x.word(1, 8));
        CHECK.same("word(-1, -1)", UNKNOWN, x.word(-1, -1));
        CHECK.same("word(0, 8)", BAD, x.word(0, 8));
        CHECK.same("word(0, 8) of no words", UNKNOWN, new BagPhrases().word(0, 8));
    }

    private static void word(BagPhrases x, int word, int... due) {
        for (int what = 0; what < due.length; what++) {
            CHECK.same("word(" + word + ", " + what + ")", due[what], x.word(word, what));
        }
    }

    private static void wordLeast() {
        CHECK.sentence(7, "each at its least");
        word(Check.house("waA0"), 0, 1, 0, 0, 0, 0, 1, 0, 1);
    }

    private static void wordMost() {
        CHECK.sentence(7, "each at its most");
        BagPhrases x = Check.house("whD9".repeat(10) + "+h".repeat(12));
        x.bar(9);
        word(x, 9, 1, 3, 9, 1, 7, 10, 12, 128);
        x = Check.house("wcdefghD9");
        word(x, 0, 6, 3, 9, 0, 2, 1, 0, 252);
    }

    private static void rarestOfLikeOnes() {
        CHECK.sentence(7, "RAREST .. that the fewest WORDS have (of like ones the least) .. BARRED or not");
        BagPhrases x = Check.house("whgA0whA0wgA0");
        CHECK.same("word(0, 4): g and h in two each", 6, x.word(0, 4));
        x = Check.house("whgA0wgA0");
        CHECK.same("word(0, 4): h in one", 7, x.word(0, 4));
        x.bar(1);
        CHECK.same("word(0, 4), the other one barred", 7, x.word(0, 4));
        x.bar(0);
        CHECK.same("word(0, 4), barred itself", 7, x.word(0, 4));
        // a word that has a letter twice is one word that has it
        x = Check.house("waabA0wbA0waA0wbA0");
        CHECK.same("word(0, 4): a in two words, b in three", 0, x.word(0, 4));
        x = Check.house("wabcdeA0wabcdA0wabcA0wabA0waA0waA0waA0waA0waA0waA0");
        CHECK.same("word(0, 4)", 4, x.word(0, 4));
        CHECK.same("word(3, 4)", 1, x.word(3, 4));
        CHECK.same("word(9, 4): in all ten", 0, x.word(9, 4));
    }

    private static void twins() {
        CHECK.sentence(7, "TWINS are WORDS whose LETTERS are the same, as often .. itself among them (5)");
        BagPhrases x = Check.house("waabA0wabaB1wbaaC2wabbD3wabA4waabbA5");
        int[] due = {3, 3, 3, 1, 1, 1};
        for (int word = 0; word < due.length; word++) {
            CHECK.same("word(" + word + ", 5)", due[word], x.word(word, 5));
        }
        x.bar(0);
        CHECK.same("word(0, 5), barred", 3, x.word(0, 5));
        CHECK.same("word(1, 5), a twin barred", 3, x.word(1, 5));
    }

    private static void couldBeMade() {
        CHECK.sentence(7, "how many of it could be made of THE BAG (6)");
        BagPhrases x = Check.house("waA0waaabA0waaaaaaA0");
        for (int size = 1; size <= 12; size++) {
            x.put(0);
            CHECK.same("word(0, 6) of " + size, size, x.word(0, 6));
            CHECK.same("word(1, 6) of " + size, 0, x.word(1, 6));
            CHECK.same("word(2, 6) of " + size, size / 6, x.word(2, 6));
        }
        for (int bs = 1; bs <= 6; bs++) {
            x.take(0);
            x.put(1);
            CHECK.same("word(1, 6), " + bs + " b", Math.min(bs, (12 - bs) / 3), x.word(1, 6));
        }
    }

    // ---- promise 8

    private static void letterBounds() {
        CHECK.sentence(8, "letter (0 .. 7 ..); BAD");
        BagPhrases x = Check.house("waA0whA0whA0+a+h+h");
        CHECK.same("letter(-1, 0)", UNKNOWN, x.letter(-1, 0));
        CHECK.same("letter(0, 0)", 1, x.letter(0, 0));
        CHECK.same("letter(7, 0)", 2, x.letter(7, 0));
        CHECK.same("letter(8, 0)", UNKNOWN, x.letter(8, 0));
        CHECK.same("letter(-1, 1)", UNKNOWN, x.letter(-1, 1));
        CHECK.same("letter(0, 1)", 1, x.letter(0, 1));
        CHECK.same("letter(7, 1)", 2, x.letter(7, 1));
        CHECK.same("letter(8, 1)", UNKNOWN, x.letter(8, 1));
        CHECK.same("letter(0, -1)", BAD, x.letter(0, -1));
        CHECK.same("letter(0, 3)", BAD, x.letter(0, 3));
        CHECK.same("letter(7, 3)", BAD, x.letter(7, 3));
        CHECK.same("letter(7, -1)", BAD, x.letter(7, -1));
        CHECK.same("letter(the least, 0)", UNKNOWN, x.letter(Integer.MIN_VALUE, 0));
        CHECK.same("letter(the greatest, 0)", UNKNOWN, x.letter(Integer.MAX_VALUE, 0));
        CHECK.same("letter(0, the least)", BAD, x.letter(0, Integer.MIN_VALUE));
        CHECK.same("letter(0, the greatest)", BAD, x.letter(0, Integer.MAX_VALUE));
    }

    private static void kindBounds() {
        CHECK.sentence(8, "where what = 2, 0 .. 3");
        BagPhrases x = Check.house(":AB:DC:DD");
        CHECK.same("letter(-1, 2)", UNKNOWN, x.letter(-1, 2));
        CHECK.same("letter(0, 2)", 2, x.letter(0, 2));
        CHECK.same("letter(3, 2)", 12, x.letter(3, 2));
        for (int letter = 4; letter <= 8; letter++) {
            CHECK.same("letter(" + letter + ", 2)", UNKNOWN, x.letter(letter, 2));
        }
        CHECK.same("letter(4, 1)", 0, x.letter(4, 1));
        CHECK.same("letter(4, 3)", BAD, x.letter(4, 3));
    }

    private static void letterUnknownFirst() {
        CHECK.sentence(8, "UNKNOWN ..; BAD (of several what is told first)");
        BagPhrases x = new BagPhrases();
        CHECK.same("letter(8, 3)", UNKNOWN, x.letter(8, 3));
        CHECK.same("letter(-1, -1)", UNKNOWN, x.letter(-1, -1));
        CHECK.same("letter(8, -1)", UNKNOWN, x.letter(8, -1));
    }

    private static void letterValues() {
        CHECK.sentence(8, "each at its least and at its most");
        BagPhrases x = Check.house("wbbaA0".repeat(10) + "+b".repeat(12) + Houses.ALL_PAIRS);
        CHECK.same("letter(1, 0)", 12, x.letter(1, 0));
        CHECK.same("letter(0, 0)", 0, x.letter(0, 0));
        CHECK.same("letter(1, 1): ten have it, each twice", 10, x.letter(1, 1));
        CHECK.same("letter(2, 1)", 0, x.letter(2, 1));
        x.bar(0);
        CHECK.same("letter(1, 1), one barred", 10, x.letter(1, 1));
        for (int kind = 0; kind < 4; kind++) {
            CHECK.same("letter(" + kind + ", 2)", 15, x.letter(kind, 2));
        }
        CHECK.same("letter(0, 2) of a new object", 0, new BagPhrases().letter(0, 2));
    }
}
