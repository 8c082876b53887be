/** The bounds that the document names in promises 21 to 24, a sentence at a time. */
public final class BoundsOfRowsTest {
    private static final Check CHECK = new Check();
    private static final int BAD = -2, NONE = -9;
    private static final int LEAST = Integer.MIN_VALUE, GREATEST = Integer.MAX_VALUE;

    public static void main(String[] args) {
        whyBounds();
        why0Phrase();
        why1Barred();
        why2NotLet();
        why3Wanting();
        why3AsItIsSpelt();
        why3OfTheTenth();
        why3HowMany();
        why4Left();
        why5NotEnd();
        why6NoWords();
        whyOfOneWord();
        whyWordByWord();
        whyBehindThemAll();
        whyOfAFullRow();
        numberNone();
        numberBounds();
        numberFindsPhrase();
        numberByKinds();
        noneBeginsAsAnother();
        nearlyBounds();
        wantingAThirteenth();
        wantingThirteenWords();
        wantingOfAnEmptyBag();
        tooManyOfTheBag();
        tooManyTheLast();
        wouldBePhrases();
        wouldFollow();
        whetherThereAreNow();
        nearlyIsOnlyAsked();
        judgeNBounds();
        judgeRowBounds();
        judgePlaces();
        judgeZero();
        judgePut();
        judgeThirteenth();
        judgeTaken();
        judgeBarred();
        judgeSoMany();
        judgeInAPhrase();
        judgeFollow();
        judgeBest();
        judgeOneBehindAnother();
        judgeIsOnlyAsked();
        CHECK.covered(21, 24);
        CHECK.end();
    }

    // ---- promise 21

    private static void why(BagPhrases x, int why, int place, int letter, int amount) {
        CHECK.same("why(0)", why, x.why(0));
        CHECK.same("why(1)", place, x.why(1));
        CHECK.same("why(2)", letter, x.why(2));
        CHECK.same("why(3)", amount, x.why(3));
        CHECK.holds("number() is NONE if it is no PHRASE", x.number() == NONE == (why != 0));
    }

    private static void whyBounds() {
        CHECK.sentence(21, "(what = 0) .. (3; 0). BAD");
        int[] wrong = {LEAST, -1, 4, GREATEST};
        BagPhrases x = Check.house("waA0+a^A.A");
        for (int what : wrong) {
            CHECK.same("why(" + what + ") of no words", BAD, x.why(what));
        }
        x.tell(0);
        for (int what : wrong) {
            CHECK.same("why(" + what + ") of a phrase", BAD, x.why(what));
        }
        why(x, 0, NONE, NONE, 0);
    }

    private static void why0Phrase() {
        CHECK.sentence(21, "0: it is a PHRASE; NONE: it is one; NONE: by none; 0");
        BagPhrases x = Check.house("waA0+a^A.A:AA");
        for (int size = 1; size <= 12; size++) {
            x.tell(0);
            why(x, 0, NONE, NONE, 0);
            x.put(0);
        }
    }

    private static void why1Barred() {
        CHECK.sentence(21, "1 it is BARRED");
        BagPhrases x = Check.house(Houses.twins(2, 12));
        x.bar(1);
        for (int place = 0; place < 12; place++) {
            x.clear();
            for (int i = 0; i < 12; i++) {
                x.tell(i == place ? 1 : 0);
            }
            why(x, 1, place, NONE, 0);
        }
        x.bar(1);
        why(x, 0, NONE, NONE, 0);
    }

    private static void why2NotLet() {
        CHECK.sentence(21, "2 it is not LET (the first one: its KIND may not BEGIN; another one: it may not FOLLOW)");
        BagPhrases x = Check.house("waA0wbB0+a+b.A.B:AB");
        Check.tell(x, 0, 1);
        why(x, 2, 0, NONE, 0);
        x.allow(0, 0, 0);
        why(x, 0, NONE, NONE, 0);
        Check.tell(x, 1, 0);
        why(x, 2, 0, NONE, 0);
        x.allow(0, 1, 0);
        why(x, 2, 1, NONE, 0);
        x.allow(2, 1, 0);
        why(x, 0, NONE, NONE, 0);
    }

    private static void why3Wanting() {
        CHECK.sentence(21, "3 THE BAG has not as many .. when those ahead of it have taken theirs");
        BagPhrases x = Check.house("waaA0wabA0+a+a+b^A.A:AA");
        Check.tell(x, 0, 1);
        why(x, 3, 1, 0, 1);
        Check.tell(x, 1, 0);
        why(x, 3, 1, 0, 1);
        Check.tell(x, 1, 1);
        why(x, 3, 1, 1, 1);
        Check.tell(x, 0, 0);
        why(x, 3, 1, 0, 2);
        x.put(0);
        Check.tell(x, 0, 1);
        why(x, 0, NONE, NONE, 0);
    }

    private static void why3AsItIsSpelt() {
        CHECK.sentence(21, "(the first such LETTER as it is spelt ..)");
        BagPhrases x = Check.house("whgabA0wabghA0wbahgA0^A.A:AA");
        Check.tell(x, 0);
        why(x, 3, 0, 7, 1);
        Check.tell(x, 1);
        why(x, 3, 0, 0, 1);
        Check.tell(x, 2);
        why(x, 3, 0, 1, 1);
        x.put(1);
        x.put(0);
        why(x, 3, 0, 7, 1);
        x.put(7);
        why(x, 3, 0, 6, 1);
        Check.tell(x, 0);
        why(x, 3, 0, 6, 1);
    }

    private static void why3OfTheTenth() {
        CHECK.sentence(21, "(the first such LETTER as it is spelt ..) of the last of ten WORDS");
        BagPhrases x = Check.house("waA0".repeat(9) + "whgfedcA0+c+d^A.A:AA");
        Check.tell(x, 9);
        int[] spelt = {7, 6, 5, 4};
        for (int letter : spelt) {
            why(x, 3, 0, letter, 1);
            x.put(letter);
        }
        why(x, 0, NONE, NONE, 0);
    }

    private static void why3HowMany() {
        CHECK.sentence(21, "so many are wanting: what the WORD has of it less what is left of it");
        BagPhrases x = Check.house("whhhhhhA0^A.A:AA");
        x.tell(0);
        for (int wanting = 6; wanting >= 1; wanting--) {
            why(x, 3, 0, 7, wanting);
            x.put(7);
        }
        why(x, 0, NONE, NONE, 0);
        x.tell(0);
        for (int wanting = 6; wanting >= 1; wanting--) {
            why(x, 3, 1, 7, wanting);
            x.put(7);
        }
        why(x, 0, NONE, NONE, 0);
    }

    private static void why4Left() {
        CHECK.sentence(21, "4 LETTERS are left (the least such LETTER); behind them all: how many WORDS; how many .. left");
        BagPhrases x = Check.house("waA0+a+h^A.A:AA");
        x.tell(0);
        why(x, 4, 1, 7, 1);
        x.put(7);
        why(x, 4, 1, 7, 2);
        x.put(1);
        why(x, 4, 1, 1, 1);
        x.put(0);
        why(x, 4, 1, 0, 1);
        x.tell(0);
        why(x, 4, 2, 1, 1);
        for (int i = 0; i < 7; i++) {
            x.put(0);
        }
        why(x, 4, 2, 0, 7);
    }

    private static void why5NotEnd() {
        CHECK.sentence(21, "5 it may not END");
        BagPhrases x = Check.house("waA0wbB0+a+b^A^B.A:AB:BA");
        Check.tell(x, 0, 1);
        why(x, 5, 2, NONE, 0);
        Check.tell(x, 1, 0);
        why(x, 0, NONE, NONE, 0);
        x.take(0);
        Check.tell(x, 1);
        why(x, 5, 1, NONE, 0);
    }

    private static void why6NoWords() {
        CHECK.sentence(21, "6 there are no WORDS (told ahead of 4)");
        BagPhrases x = new BagPhrases();
        why(x, 6, 0, NONE, 0);
        x.put(0);
        why(x, 6, 0, NONE, 0);
        for (int i = 0; i < 11; i++) {
            x.put(3);
        }
        why(x, 6, 0, NONE, 0);
        BagPhrases let = Check.house("waA0+a" + Houses.ALL_LET);
        why(let, 6, 0, NONE, 0);
        let.tell(0);
        let.clear();
        why(let, 6, 0, NONE, 0);
    }

    private static void whyOfOneWord() {
        CHECK.sentence(21, "(Of one WORD 1 is told ahead of 2, 2 ahead of 3.)");
        BagPhrases x = Check.house("waA0");
        x.tell(0);
        x.bar(0);
        why(x, 1, 0, NONE, 0);
        x.bar(0);
        why(x, 2, 0, NONE, 0);
        x.allow(0, 0, 0);
        why(x, 3, 0, 0, 1);
        x.bar(0);
        why(x, 1, 0, NONE, 0);
        x.bar(0);
        x.put(0);
        why(x, 5, 1, NONE, 0);
        x.allow(1, 0, 0);
        why(x, 0, NONE, NONE, 0);
        // the same of a second word
        x.tell(0);
        x.bar(0);
        x.bar(0);
        why(x, 2, 1, NONE, 0);
        x.allow(2, 0, 0);
        why(x, 3, 1, 0, 1);
        x.put(0);
        why(x, 0, NONE, NONE, 0);
    }

    private static void whyWordByWord() {
        CHECK.sentence(21, "the first of these, WORD by WORD");
        BagPhrases x = Check.house("waA0wbB0+a^A.A:AA");
        // the second word is barred and not let, the first one wants a letter
        Check.tell(x, 0, 1);
        x.bar(1);
        x.take(0);
        why(x, 3, 0, 0, 1);
        x.put(0);
        why(x, 1, 1, NONE, 0);
        // the first one is not let, the second one barred
        x.allow(0, 0, 0);
        why(x, 2, 0, NONE, 0);
    }

    private static void whyBehindThemAll() {
        CHECK.sentence(21, "behind them all: 4 .. 5 (4 is told ahead of 5)");
        BagPhrases x = Check.house("waA0+a+b^A");
        x.tell(0);
        why(x, 4, 1, 1, 1);
        x.take(1);
        why(x, 5, 1, NONE, 0);
        x.tell(0);
        why(x, 2, 1, NONE, 0);
    }

    private static void whyOfAFullRow() {
        CHECK.sentence(21, "A ROW is WORDS (12 at most): at which place (from 0 ..)");
        BagPhrases x = Check.house(Houses.twins(1, 12));
        for (int i = 0; i < 12; i++) {
            x.tell(0);
        }
        why(x, 0, NONE, NONE, 0);
        x.take(0);
        why(x, 3, 11, 0, 1);
        x.put(1);
        why(x, 3, 11, 0, 1);
        x.undo();
        x.undo();
        x.allow(1, 0, 0);
        why(x, 5, 12, NONE, 0);
    }

    // ---- promise 22

    private static void numberNone() {
        CHECK.sentence(22, "NONE: it is no PHRASE");
        BagPhrases x = Check.house(Houses.twins(2, 2));
        CHECK.same("number() of no words", NONE, x.number());
        x.tell(0);
        CHECK.same("number() of too few", NONE, x.number());
        x.tell(0);
        CHECK.same("number()", 0, x.number());
        x.tell(0);
        CHECK.same("number() of too many", NONE, x.number());
        CHECK.same("number() of a new object", NONE, new BagPhrases().number());
    }

    private static void numberBounds() {
        CHECK.sentence(22, "NUMBER of one: how many are ahead of it");
        BagPhrases x = Check.house(Houses.tenTwins(12));
        for (int word = 0; word <= 9; word++) {
            x.clear();
            for (int i = 0; i < 12; i++) {
                x.tell(word);
            }
            CHECK.same("number()", 111111111111L * word, x.number());
        }
    }

    private static void numberFindsPhrase() {
        CHECK.sentence(22, "The NUMBER of A ROW (the one by which phrase tells it)");
        BagPhrases x = Check.house("waA0wbB0wabC0wbaC0+a+b+a" + Houses.ALL_LET);
        long many = x.many(0);
        CHECK.same("many(0)", 7, many);
        for (int number = 0; number < many; number++) {
            x.clear();
            for (int k = 1; k <= x.phrase(number, 0); k++) {
                x.tell(x.phrase(number, k));
            }
            CHECK.same("number()", number, x.number());
        }
    }

    private static void numberByKinds() {
        CHECK.sentence(22, "how many are ahead of it (rows that are not LET are none)");
        // 0 2 and 1 3: by its letters and its own beginning 2 could stand where 3 does, but not behind 1
        BagPhrases x = Check.house("waA0waB0wbC0wbD0+a+b^A^B^C^D.C.D:AC:BD");
        CHECK.same("many(0)", 2, x.many(0));
        Check.tell(x, 0, 2);
        CHECK.same("number()", 0, x.number());
        Check.tell(x, 1, 3);
        CHECK.same("number()", 1, x.number());
        CHECK.same("phrase(1, 2)", 3, x.phrase(1, 2));
        Check.tell(x, 1, 2);
        CHECK.same("number()", NONE, x.number());
    }

    private static void noneBeginsAsAnother() {
        CHECK.sentence(22, "(None begins as another whole one does.)");
        BagPhrases x = Check.house("waA0waaA0+a+a+a^A.A:AA");
        int[][] rows = {{0, 0, 0}, {0, 1}, {1, 0}};
        CHECK.same("many(0)", rows.length, x.many(0));
        for (int number = 0; number < rows.length; number++) {
            Check.tell(x, rows[number]);
            CHECK.same("number()", number, x.number());
            x.tell(0);
            CHECK.same("number() of it and more", NONE, x.number());
        }
    }

    // ---- promise 23

    private static void nearlyBounds() {
        CHECK.sentence(23, "WANTING (what = 0), TOO MANY (1): bits. BAD");
        BagPhrases x = Check.house("waA0whA0+a+h+h" + Houses.ALL_LET);
        int[] wrong = {LEAST, -1, 2, GREATEST};
        for (int what : wrong) {
            CHECK.same("nearly(" + what + ")", BAD, x.nearly(what));
        }
        CHECK.same("nearly(0)", 129, x.nearly(0));
        CHECK.same("nearly(1)", 129, x.nearly(1));
    }

    private static void wantingAThirteenth() {
        CHECK.sentence(23, "(a thirteenth, too)");
        BagPhrases x = Check.house("wabcdefA0wghabcdA0weA0wefghaA0+a+b+c+d+e+f+g+h+a+b+c+d" + Houses.ALL_LET);
        CHECK.same("many(0)", 2, x.many(0));
        CHECK.same("about(1)", 12, x.about(1));
        CHECK.same("nearly(0): e, the thirteenth", 16, x.nearly(0));
        CHECK.same("put(4)", -4, x.put(4));
        CHECK.same("about(1)", 12, x.about(1));
        x.take(4);
        CHECK.same("nearly(0): e, the twelfth", 16, x.nearly(0));
        x.take(0);
        CHECK.same("nearly(0), two short", 0, x.nearly(0));
        // 3^5 2^3 ways to leave some of thirteen letters: a word of each letter
        x = Check.house("waA0wbA0wcA0wdA0weA0wfA0wgA0whA0+a+a+b+b+c+c+d+d+e+f+g+h^A.A:AA");
        CHECK.same("nearly(0), all", 255, x.nearly(0));
        CHECK.same("nearly(1), all", 255, x.nearly(1));
        x.bar(4);
        CHECK.same("nearly(0), e barred", 0, x.nearly(0));
        CHECK.same("nearly(1), e barred", 16, x.nearly(1));
    }

    private static void wantingThirteenWords() {
        CHECK.sentence(23, "with one more of which .. there were PHRASES (of thirteen WORDS)");
        BagPhrases x = Check.house("waA0" + "+a".repeat(12) + "^A.A:AA");
        CHECK.same("nearly(0)", 1, x.nearly(0));
        CHECK.same("nearly(1)", 1, x.nearly(1));
        // a phrase of thirteen words that has kinds by turns: thirteen, not twelve
        x = Check.house("waA0waB0" + "+a".repeat(12) + "^A.A:AB:BA");
        CHECK.same("many(0): by turns, an even row does not end", 0, x.many(0));
        CHECK.same("nearly(0)", 1, x.nearly(0));
        CHECK.same("nearly(1)", 1, x.nearly(1));
    }

    private static void wantingOfAnEmptyBag() {
        CHECK.sentence(23, "WANTING: LETTERS (a .. h) with one more of which in THE BAG (an empty one)");
        BagPhrases x = Check.house("waA0whA0wbbA0wcB0^A.A:AA");
        CHECK.same("nearly(0): a, h by themselves", 129, x.nearly(0));
        CHECK.same("nearly(1): nothing to take", 0, x.nearly(1));
        CHECK.same("nearly(0) of a new object", 0, new BagPhrases().nearly(0));
        CHECK.same("nearly(1) of a new object", 0, new BagPhrases().nearly(1));
    }

    private static void tooManyOfTheBag() {
        CHECK.sentence(23, "TOO MANY: LETTERS of THE BAG with one less of which there were");
        BagPhrases x = Check.house("waA0+a+a+b^A.A:AA");
        CHECK.same("nearly(1): b alone", 2, x.nearly(1));
        x.put(2);
        CHECK.same("nearly(1): b or c is not enough", 0, x.nearly(1));
        x.take(1);
        x.take(2);
        CHECK.same("nearly(1): a", 1, x.nearly(1));
    }

    private static void tooManyTheLast() {
        CHECK.sentence(23, "(An empty BAG has none: the last LETTER is never TOO MANY)");
        BagPhrases x = Check.house("waA0+a^A.A:AA");
        CHECK.same("nearly(1) of one letter", 0, x.nearly(1));
        CHECK.same("many(0)", 1, x.many(0));
        CHECK.same("nearly(1) of one letter, when it was counted", 0, x.nearly(1));
        CHECK.same("nearly(0)", 1, x.nearly(0));
        CHECK.same("nearly(1) of one letter, when more were asked for", 0, x.nearly(1));
        x.take(0);
        x.put(1);
        CHECK.same("nearly(1) of one letter that no word has", 0, x.nearly(1));
        x.put(0);
        CHECK.same("nearly(1) of two", 2, x.nearly(1));
    }

    private static void wouldBePhrases() {
        CHECK.sentence(23, "WANTING, TOO MANY: .. there were PHRASES (let by kinds, and not BARRED)");
        // with b there were a b, with c less a b c would be a b
        BagPhrases x = Check.house("waA0wbB0+a^A.B:AB");
        CHECK.same("nearly(0)", 2, x.nearly(0));
        int[][] turned = {{0, 0, 0}, {1, 1, 0}, {2, 0, 1}};
        for (int[] one : turned) {
            x.allow(one[0], one[1], one[2]);
            CHECK.same("nearly(0), it is not let", 0, x.nearly(0));
            x.undo();
        }
        x.allow(0, 1, 0);
        x.allow(0, 0, 0);
        x.allow(2, 1, 1);
        CHECK.same("nearly(0), a may not begin, nor follow", 0, x.nearly(0));
        x = Check.house("waA0wbB0+a+b+c^A.B:AB");
        CHECK.same("nearly(1)", 4, x.nearly(1));
        for (int[] one : turned) {
            x.allow(one[0], one[1], one[2]);
            CHECK.same("nearly(1), it is not let", 0, x.nearly(1));
            x.undo();
        }
        x.bar(0);
        CHECK.same("nearly(1), barred", 0, x.nearly(1));
        // of four words: C may not follow B, though it may follow A
        x = Check.house("waA0wbB0wcC0wdD0+a+b+c^A.D:AB:AC:CD");
        CHECK.same("nearly(0), C not behind B", 0, x.nearly(0));
        x.allow(2, 1, 2);
        CHECK.same("nearly(0), C behind B", 8, x.nearly(0));
    }

    private static void wouldFollow() {
        CHECK.sentence(23, "WANTING: .. there were PHRASES (each KIND may FOLLOW, or may not)");
        for (int kind = 0; kind <= 3; kind++) {
            for (int next = 0; next <= 3; next++) {
                char one = (char) ('A' + kind);
                char other = (char) ('A' + next);
                BagPhrases x = Check.house("wa" + one + "0wb" + other + "0+a^" + one + "." + other + ":" + one + other);
                CHECK.same("nearly(0), " + other + " behind " + one, kind == next ? 3 : 2, x.nearly(0));
                x.allow(2, kind, next);
                CHECK.same("nearly(0), not " + other + " behind " + one, 0, x.nearly(0));
            }
        }
    }

    private static void whetherThereAreNow() {
        CHECK.sentence(23, "(both, whether there are PHRASES now or not)");
        BagPhrases x = Check.house("waaA0+a+a+a^A.A:AA");
        CHECK.same("many(0)", 0, x.many(0));
        CHECK.same("nearly(0)", 1, x.nearly(0));
        CHECK.same("nearly(1)", 1, x.nearly(1));
        x = Check.house("waA0+a+a+a^A.A:AA");
        CHECK.same("many(0)", 1, x.many(0));
        CHECK.same("nearly(0)", 1, x.nearly(0));
        CHECK.same("nearly(1)", 1, x.nearly(1));
    }

    private static void nearlyIsOnlyAsked() {
        CHECK.sentence(23, "WANTING, TOO MANY (THE BAG stays as it is)");
        BagPhrases x = Check.house(Houses.tenTwins(12));
        x.bar(0);
        CHECK.same("nearly(0)", 1, x.nearly(0));
        CHECK.same("nearly(1)", 1, x.nearly(1));
        CHECK.same("about(1)", 12, x.about(1));
        CHECK.same("about(10)", 1, x.about(10));
        CHECK.same("letter(0, 0)", 12, x.letter(0, 0));
        CHECK.same("many(0)", 282429536481L, x.many(0));
    }

    // ---- promise 24

    private static void judgeNBounds() {
        CHECK.sentence(24, "n doings (1 .. 4) .. BAD: n");
        BagPhrases x = new BagPhrases();
        int[] wrong = {LEAST, -1, 0, 5, GREATEST};
        for (int n : wrong) {
            CHECK.same("judge(" + n + ", 0)", BAD, x.judge(n, 0));
            CHECK.same("judge(" + n + ", 4000)", BAD, x.judge(n, 4000));
        }
        long row = 0;
        for (int n = 1; n <= 4; n++) {
            row = row * 10000 + 4000;
            CHECK.same("judge(" + n + ", " + row + ")", NONE, x.judge(n, row));
        }
    }

    private static void judgeRowBounds() {
        CHECK.sentence(24, "row (0 or more, 4 n figures at most)");
        BagPhrases x = new BagPhrases();
        long beyond = 1;
        for (int n = 1; n <= 4; n++) {
            beyond *= 10000;
            CHECK.same("judge(" + n + ", -1)", BAD, x.judge(n, -1));
            CHECK.same("judge(" + n + ", 0)", 0, x.judge(n, 0));
            CHECK.same("judge(" + n + ", " + (beyond - 1) + ")", 0, x.judge(n, beyond - 1));
            CHECK.same("judge(" + n + ", " + beyond + ")", BAD, x.judge(n, beyond));
            CHECK.same("judge(" + n + ", the least)", BAD, x.judge(n, Long.MIN_VALUE));
            CHECK.same("judge(" + n + ", the greatest)", BAD, x.judge(n, Long.MAX_VALUE));
        }
        CHECK.same("judge(0, -1)", BAD, x.judge(0, -1));
        CHECK.same("judge(5, 10^20 is no long: 4000 four times and more)", BAD, x.judge(5, 4000400040004000L));
    }

    private static void judgePlaces() {
        CHECK.sentence(24, "the place of the first that can not be (or is not so); NONE: none");
        BagPhrases x = new BagPhrases();
        CHECK.same("judge: the first", 0, x.judge(4, 4001400140014001L));
        CHECK.same("judge: the second", 1, x.judge(4, 4000400140014001L));
        CHECK.same("judge: the third", 2, x.judge(4, 4000400040014001L));
        CHECK.same("judge: the fourth", 3, x.judge(4, 4000400040004001L));
        CHECK.same("judge: none", NONE, x.judge(4, 4000400040004000L));
        CHECK.same("judge: can not be, of two the first", 1, x.judge(4, 4000180040002800L));
    }

    private static void judgeZero() {
        CHECK.sentence(24, "told as four figures each (1 .. 7 at first; others can not be)");
        BagPhrases x = Check.house("waA0+a^A.A:AA");
        int[] never = {0, 1, 10, 100, 999, 8000, 8001, 9000, 9999};
        for (int doing : never) {
            CHECK.same("judge(1, " + doing + ")", 0, x.judge(1, doing));
            CHECK.same("judge(2, 4001 " + doing + ")", 1, x.judge(2, 40010000L + doing));
        }
        CHECK.same("judge(2, 4001): the first is 0000", 0, x.judge(2, 4001));
    }

    private static void judgePut() {
        CHECK.sentence(24, "1, a LETTER, 0, 0: PUT");
        BagPhrases x = Check.house("waA0whA0" + Houses.ALL_LET);
        CHECK.same("judge: a put, one phrase", NONE, x.judge(2, 10004001L));
        CHECK.same("judge: h put, one phrase", NONE, x.judge(2, 17004001L));
        CHECK.same("judge: a letter 8", 0, x.judge(1, 1800));
        CHECK.same("judge: a letter 9", 0, x.judge(1, 1900));
        CHECK.same("judge: another figure where 0 is told", 0, x.judge(1, 1010));
        CHECK.same("judge: another figure where 0 is told", 0, x.judge(1, 1001));
    }

    private static void judgeThirteenth() {
        CHECK.sentence(24, "a thirteenth LETTER can not be");
        for (int size = 8; size <= 12; size++) {
            BagPhrases x = Check.house("+a".repeat(size));
            CHECK.same("judge: four put, " + size, size == 8 ? NONE : 12 - size, x.judge(4, 1700100017001000L));
            CHECK.same("judge: one taken, one put, " + size, NONE, x.judge(2, 20001700L));
        }
        BagPhrases full = Check.house("+a".repeat(12));
        CHECK.same("judge: one taken, two put", 2, full.judge(3, 200017001700L));
        CHECK.same("about(1)", 12, full.about(1));
    }

    private static void judgeTaken() {
        CHECK.sentence(24, "2, a LETTER, 0, 0: TAKEN");
        BagPhrases x = Check.house("waA0whA0+a+h" + Houses.ALL_LET);
        CHECK.same("judge: a taken, one phrase", NONE, x.judge(2, 20004001L));
        CHECK.same("judge: h taken, one phrase", NONE, x.judge(2, 27004001L));
        CHECK.same("judge: a taken twice", 1, x.judge(2, 20002000L));
        CHECK.same("judge: b taken", 0, x.judge(1, 2100));
        CHECK.same("judge: b put, b taken", NONE, x.judge(2, 11002100L));
        CHECK.same("judge: both taken, no phrase", NONE, x.judge(3, 200027004000L));
        CHECK.same("judge: a letter 8", 0, x.judge(1, 2800));
        CHECK.same("judge: a letter 9", 0, x.judge(1, 2900));
        CHECK.same("judge: another figure where 0 is told", 0, x.judge(1, 2010));
        CHECK.same("judge: another figure where 0 is told", 0, x.judge(1, 2001));
    }

    private static void judgeBarred() {
        CHECK.sentence(24, "3, a WORD, 0, 0: BARRED, or no more");
        BagPhrases x = Check.house(Houses.twins(9, 1));
        CHECK.same("judge: 0 barred, eight", NONE, x.judge(2, 30004008L));
        CHECK.same("judge: 8 barred, eight", NONE, x.judge(2, 38004008L));
        CHECK.same("judge: 9, no WORD", 0, x.judge(1, 3900));
        CHECK.same("judge: 0 barred and no more, nine", NONE, x.judge(3, 300030004009L));
        x.bar(0);
        CHECK.same("judge: 0 barred no more, nine", NONE, x.judge(2, 30004009L));
        CHECK.same("judge: another figure where 0 is told", 0, x.judge(1, 3010));
        CHECK.same("judge: another figure where 0 is told", 0, x.judge(1, 3001));
        BagPhrases ten = Check.house(Houses.tenTwins(1));
        CHECK.same("judge: 9 of ten", NONE, ten.judge(2, 39004009L));
        CHECK.same("judge: 0 of no words", 0, new BagPhrases().judge(1, 3000));
    }

    private static void judgeSoMany() {
        CHECK.sentence(24, "4, 0, two figures: there are so many PHRASES");
        CHECK.same("judge: none", NONE, new BagPhrases().judge(1, 4000));
        CHECK.same("judge: one, of none", 0, new BagPhrases().judge(1, 4001));
        // nine of kind A, one of B that does not follow itself: 99 rows of two
        BagPhrases x = Check.house("waA0".repeat(9) + "waB0+a+a^A^B.A.B:AA:AB:BA");
        CHECK.same("many(0)", 99, x.many(0));
        CHECK.same("judge: 99", NONE, x.judge(1, 4099));
        CHECK.same("judge: 98", 0, x.judge(1, 4098));
        CHECK.same("judge: B behind B: 100, no two figures", 1, x.judge(2, 61104000L));
        CHECK.same("judge: B behind B: not 99", 1, x.judge(2, 61104099L));
        CHECK.same("judge: B behind B: not 10", 1, x.judge(2, 61104010L));
        CHECK.same("judge: another figure where 0 is told", 0, x.judge(1, 4199));
        CHECK.same("judge: a million millions", 0, Check.house(Houses.tenTwins(12)).judge(1, 4000));
    }

    private static void judgeInAPhrase() {
        CHECK.sentence(24, "5, a WORD, 0, 1 or 0: it is in a PHRASE, or in none");
        BagPhrases x = Check.house("waA0wbA0+a^A.A");
        CHECK.same("judge: 0 in one", NONE, x.judge(1, 5001));
        CHECK.same("judge: 0 in none", 0, x.judge(1, 5000));
        CHECK.same("judge: 1 in one", 0, x.judge(1, 5101));
        CHECK.same("judge: 1 in none", NONE, x.judge(1, 5100));
        CHECK.same("judge: 2, no WORD, in none", 0, x.judge(1, 5200));
        CHECK.same("judge: 2, no WORD, in one", 0, x.judge(1, 5201));
        CHECK.same("judge: neither 1 nor 0", 0, x.judge(1, 5002));
        CHECK.same("judge: neither 1 nor 0", 0, x.judge(1, 5009));
        CHECK.same("judge: another figure where 0 is told", 0, x.judge(1, 5011));
        CHECK.same("judge: another figure where 0 is told", 0, x.judge(1, 5010));
        CHECK.same("judge: 0 barred, in none", NONE, x.judge(2, 30005000L));
        BagPhrases ten = Check.house(Houses.tenTwins(1));
        CHECK.same("judge: 9 of ten in one", NONE, ten.judge(1, 5901));
    }

    private static void judgeFollow() {
        CHECK.sentence(24, "6, a KIND, a KIND, 0: it is turned whether the second one may FOLLOW the first");
        BagPhrases x = Check.house("waA0waD0+a+a^A.D");
        CHECK.same("judge: none", NONE, x.judge(1, 4000));
        CHECK.same("judge: D behind A, one", NONE, x.judge(2, 60304001L));
        CHECK.same("judge: A behind D, none", NONE, x.judge(2, 63004000L));
        CHECK.same("judge: D behind A and no more, none", NONE, x.judge(3, 603060304000L));
        CHECK.same("judge: D behind D", NONE, x.judge(1, 6330));
        CHECK.same("judge: a kind 4 at first", 0, x.judge(1, 6400));
        CHECK.same("judge: a kind 4 behind it", 0, x.judge(1, 6040));
        CHECK.same("judge: kinds 9", 0, x.judge(1, 6990));
        CHECK.same("judge: another figure where 0 is told", 0, x.judge(1, 6001));
        x.allow(2, 0, 3);
        CHECK.same("judge: D behind A no more, none", NONE, x.judge(2, 60304000L));
        CHECK.same("letter(0, 2)", 8, x.letter(0, 2));
    }

    private static void judgeBest() {
        CHECK.sentence(24, "7, 0, two figures: the WORTH of the BEST is that, and there is one");
        BagPhrases x = Check.house("waA9" + "+a".repeat(11) + "^A.A:AA");
        CHECK.same("judge: 99", NONE, x.judge(1, 7099));
        CHECK.same("judge: 98", 0, x.judge(1, 7098));
        CHECK.same("judge: 108, no two figures", 1, x.judge(2, 10007008L));
        CHECK.same("judge: 108, not 99", 1, x.judge(2, 10007099L));
        CHECK.same("judge: another figure where 0 is told", 0, x.judge(1, 7199));
        CHECK.same("judge: there is none", 0, new BagPhrases().judge(1, 7000));
        BagPhrases nothing = Check.house("waA0+a^A.A");
        CHECK.same("judge: there is one, worth 0", NONE, nothing.judge(1, 7000));
        CHECK.same("judge: worth 1", 0, nothing.judge(1, 7001));
    }

    private static void judgeOneBehindAnother() {
        CHECK.sentence(24, "n doings: each behind those ahead of it");
        BagPhrases x = Check.house("waA5waB7^A^B.A.B:AA");
        CHECK.same("judge: a put, two phrases, worth 7", NONE, x.judge(3, 100040027007L));
        CHECK.same("judge: a put, 1 barred, one phrase, worth 5", NONE, x.judge(4, 1000310040017005L));
        CHECK.same("judge: a put twice, one phrase, worth 10", NONE, x.judge(4, 1000100040017010L));
        CHECK.same("judge: a put twice, B behind B, two", NONE, x.judge(4, 1000100061104002L));
    }

    private static void judgeIsOnlyAsked() {
        CHECK.sentence(24, "JUDGED (told doings are not done)");
        BagPhrases x = Check.house("waA5wbB7+a^A.A");
        x.rank(0, 6);
        for (int i = 0; i < 13; i++) {
            x.bar(1);
        }
        long[] rows = {1100310060106210L, 2000310060101800L, 3000300030009999L, 2000200020002000L,
            1000310060104000L, 1000600040017012L, 2000400040007000L, 3000500040004000L};
        for (long row : rows) {
            x.judge(4, row);
            CHECK.same("about(1)", 1, x.about(1));
            CHECK.same("about(3)", 2, x.about(3));
            CHECK.same("about(10)", 14, x.about(10));
            CHECK.same("letter(0, 2)", 0, x.letter(0, 2));
            CHECK.same("letter(2, 2)", 0, x.letter(2, 2));
            CHECK.same("many(0)", 1, x.many(0));
            CHECK.same("best(0)", 6, x.best(0));
        }
        for (int left = 13; left >= 0; left--) {
            CHECK.same("undo()", left, x.undo());
        }
        CHECK.same("word(0, 2): the first doing was not forgotten", 5, x.word(0, 2));
    }
}
