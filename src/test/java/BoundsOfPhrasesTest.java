/** The bounds that the document names in promises 15 to 24, a sentence at a time. */
public final class BoundsOfPhrasesTest {
    private static final Check CHECK = new Check();
    private static final int UNKNOWN = -1, BAD = -2, LATE = -3, FULL = -4, NONE = -9;
    private static final int LEAST = Integer.MIN_VALUE, GREATEST = Integer.MAX_VALUE;

    /** Ten to the twelfth: the most phrases there can be. */
    private static final long MOST = 1000000000000L;

    public static void main(String[] args) {
        manyBounds();
        emptyBagHasNone();
        oneWordIsAPhrase();
        wordsMoreThanOnce();
        lettersJustThoseOfTheBag();
        barredInNone();
        firstMayBegin();
        lastMayEnd();
        eachMayFollow();
        mostPhrases();
        mostLeftovers();
        havingBounds();
        havingAtLeastOnce();
        bestBounds();
        bestNone();
        bestNotSoMany();
        bestOfLikeOnes();
        bestWorths();
        phraseNumberBounds();
        phraseKBounds();
        phraseUnknownFirst();
        phraseOfVeryMany();
        phraseByKinds();
        tellBounds();
        rowFull();
        tellUnknownFirst();
        cleared();
        rowStays();
        CHECK.covered(15, 20);
        CHECK.end();
    }

    // ---- promise 15

    private static void manyBounds() {
        CHECK.sentence(15, "all (words = 0), of so many WORDS (1 .. 12). BAD");
        BagPhrases x = Check.house("waA0+a^A.A:AA");
        int[] wrong = {LEAST, -1, 13, GREATEST};
        for (int words : wrong) {
            CHECK.same("many(" + words + ")", BAD, x.many(words));
            CHECK.same("many(" + words + ") of a new object", BAD, new BagPhrases().many(words));
        }
        CHECK.same("many(0) of a new object", 0, new BagPhrases().many(0));
        for (int size = 1; size <= 12; size++) {
            CHECK.same("many(0)", 1, x.many(0));
            for (int words = 1; words <= 12; words++) {
                CHECK.same("many(" + words + "), " + size + " letters", words == size ? 1 : 0, x.many(words));
            }
            x.put(0);
        }
    }

    private static void emptyBagHasNone() {
        CHECK.sentence(15, "(An empty BAG has none.)");
        BagPhrases x = Check.house("waA1wbB2whhC3" + Houses.ALL_LET);
        for (int words = 0; words <= 12; words++) {
            CHECK.same("many(" + words + ")", 0, x.many(words));
        }
        CHECK.same("having(0)", 0, x.having(0));
        CHECK.same("best(0)", NONE, x.best(0));
        CHECK.same("best(1)", NONE, x.best(1));
        CHECK.same("phrase(0, 0)", UNKNOWN, x.phrase(0, 0));
        CHECK.same("about(7)", 0, x.about(7));
        CHECK.same("about(8)", NONE, x.about(8));
        CHECK.same("about(9)", NONE, x.about(9));
        CHECK.same("number()", NONE, x.number());
        CHECK.same("why(0): no words", 6, x.why(0));
        CHECK.same("left(0)", 0, x.left(0));
        CHECK.same("left(1)", NONE, x.left(1));
        CHECK.same("share(0, true)", 0, x.share(0, true));
        CHECK.same("share(0, false)", 1, x.share(0, false));
        CHECK.same("hope(0, true)", 0, x.hope(0, true));
        CHECK.same("hope(0, false)", 1, x.hope(0, false));
        CHECK.same("drawn(20)", 0, x.drawn(20));
        CHECK.same("judge: no phrases", NONE, x.judge(1, 4000));
        CHECK.same("judge: no best", 0, x.judge(1, 7000));
        x.put(0);
        CHECK.same("many(0) of one letter", 1, x.many(0));
        x.take(0);
        CHECK.same("many(0), empty again", 0, x.many(0));
    }

    private static void oneWordIsAPhrase() {
        CHECK.sentence(15, "A PHRASE is a row of one or more WORDS");
        BagPhrases x = Check.house("wabcdefA7+a+b+c+d+e+f^A.A");
        CHECK.same("many(0)", 1, x.many(0));
        CHECK.same("many(1)", 1, x.many(1));
        CHECK.same("many(2)", 0, x.many(2));
        CHECK.same("best(0)", 7, x.best(0));
        CHECK.same("best(1)", 1, x.best(1));
    }

    private static void wordsMoreThanOnce() {
        CHECK.sentence(15, "WORDS (any of them more than once)");
        BagPhrases x = Check.house("waA7" + "+a".repeat(12) + "^A.A:AA");
        CHECK.same("many(0)", 1, x.many(0));
        CHECK.same("many(12)", 1, x.many(12));
        CHECK.same("phrase(0, 12)", 0, x.phrase(0, 12));
    }

    private static void lettersJustThoseOfTheBag() {
        CHECK.sentence(15, "whose LETTERS together are just those of THE BAG, as often");
        BagPhrases x = Check.house("wabbA0+a+b+b^A.A:AA");
        CHECK.same("many(0)", 1, x.many(0));
        for (int letter = 0; letter < 8; letter++) {
            x.put(letter);
            CHECK.same("many(0), one more of " + letter, 0, x.many(0));
            x.undo();
        }
        x.take(1);
        CHECK.same("many(0), a b", 0, x.many(0));
        x.put(0);
        CHECK.same("many(0), a a b", 0, x.many(0));
        x.undo();
        x.undo();
        x.put(0);
        x.put(1);
        x.put(1);
        CHECK.same("many(0), all of it twice", 1, x.many(0));
        CHECK.same("many(2)", 1, x.many(2));
    }

    private static void barredInNone() {
        CHECK.sentence(15, "WORDS .. that are not BARRED");
        BagPhrases x = Check.house("waA0waA0+a+a^A.A:AA");
        CHECK.same("many(0)", 4, x.many(0));
        x.bar(0);
        CHECK.same("many(0), one barred", 1, x.many(0));
        x.bar(1);
        CHECK.same("many(0), both barred", 0, x.many(0));
    }

    private static void firstMayBegin() {
        CHECK.sentence(15, "the KIND of the first one may BEGIN");
        BagPhrases x = Check.house("waA0wbB0+a+b.A.B:AB:BA");
        CHECK.same("many(0)", 0, x.many(0));
        x.allow(0, 0, 0);
        CHECK.same("many(0), A begins", 1, x.many(0));
        CHECK.same("phrase(0, 1)", 0, x.phrase(0, 1));
        x.allow(0, 1, 0);
        CHECK.same("many(0), both begin", 2, x.many(0));
    }

    private static void lastMayEnd() {
        CHECK.sentence(15, "that of the last one may END");
        BagPhrases x = Check.house("waA0wbB0+a+b^A^B:AB:BA");
        CHECK.same("many(0)", 0, x.many(0));
        x.allow(1, 0, 0);
        CHECK.same("many(0), A ends", 1, x.many(0));
        CHECK.same("phrase(0, 2)", 0, x.phrase(0, 2));
        x.allow(1, 1, 0);
        CHECK.same("many(0), both end", 2, x.many(0));
    }

    private static void eachMayFollow() {
        CHECK.sentence(15, "that of each may FOLLOW that of the one ahead of it");
        BagPhrases x = Check.house("waA0wbB0+a+b^A^B.A.B");
        CHECK.same("many(0)", 0, x.many(0));
        x.allow(2, 0, 1);
        CHECK.same("many(0), B behind A", 1, x.many(0));
        CHECK.same("phrase(0, 1)", 0, x.phrase(0, 1));
        CHECK.same("phrase(0, 2)", 1, x.phrase(0, 2));
        x.put(0);
        CHECK.same("many(0), a a b: none behind itself, none behind B", 0, x.many(0));
        x.allow(2, 1, 0);
        CHECK.same("many(0), a b a", 1, x.many(0));
        x.allow(2, 0, 0);
        CHECK.same("many(0), all but B behind B", 3, x.many(0));
    }

    private static void mostPhrases() {
        CHECK.sentence(15, "How many PHRASES there are (a long)");
        BagPhrases x = Check.house(Houses.tenTwins(12));
        CHECK.same("many(0)", MOST, x.many(0));
        CHECK.same("many(12)", MOST, x.many(12));
        CHECK.same("many(11)", 0, x.many(11));
        CHECK.same("many(1)", 0, x.many(1));
    }

    private static void mostLeftovers() {
        CHECK.sentence(15, "THE BAG holds LETTERS (12 at most, any of them more than once): four twice, four once");
        BagPhrases x = Check.house("waA0wbA1wcA2wdA3weA4wfA5wgA6whA7+a+b+c+d+e+f+g+h+a+b+c+d^A.A:AA");
        long many = 29937600L;
        CHECK.same("many(0): 12! / 2^4", many, x.many(0));
        CHECK.same("many(12)", many, x.many(12));
        CHECK.same("many(11)", 0, x.many(11));
        CHECK.same("having(7)", many, x.having(7));
        CHECK.same("best(0)", 34, x.best(0));
        CHECK.same("about(7)", 255, x.about(7));
        int[] first = {0, 0, 1, 1, 2, 2, 3, 3, 4, 5, 6, 7};
        for (int k = 1; k <= 12; k++) {
            CHECK.same("best(" + (k + 1) + ")", first[k - 1], x.best(k + 1));
            CHECK.same("phrase(0, " + k + ")", first[k - 1], x.phrase(0, k));
            CHECK.same("phrase(the last, " + k + ")", first[12 - k], x.phrase(many - 1, k));
        }
        Check.tell(x, 7, 6, 5, 4, 3, 3, 2, 2, 1, 1, 0, 0);
        CHECK.same("number() of the last", many - 1, x.number());
        CHECK.same("phrase(many, 0)", UNKNOWN, x.phrase(many, 0));
        CHECK.same("share(0, true)", many / 8, x.share(0, true));
        CHECK.same("hope(5, false)", 256, x.hope(5, false));
    }

    // ---- promise 16

    private static void havingBounds() {
        CHECK.sentence(16, "How many PHRASES have a WORD .. UNKNOWN");
        BagPhrases x = Check.house(Houses.twins(3, 1));
        CHECK.same("having(-1)", UNKNOWN, x.having(-1));
        CHECK.same("having(0)", 1, x.having(0));
        CHECK.same("having(2)", 1, x.having(2));
        CHECK.same("having(3)", UNKNOWN, x.having(3));
        CHECK.same("having(the least)", UNKNOWN, x.having(LEAST));
        CHECK.same("having(the greatest)", UNKNOWN, x.having(GREATEST));
        CHECK.same("having(0) of no words", UNKNOWN, new BagPhrases().having(0));
        BagPhrases ten = Check.house(Houses.tenTwins(12));
        CHECK.same("having(9) of ten", MOST - 282429536481L, ten.having(9));
        CHECK.same("having(10) of ten", UNKNOWN, ten.having(10));
    }

    private static void havingAtLeastOnce() {
        CHECK.sentence(16, "(at least once)");
        BagPhrases x = Check.house(Houses.twins(1, 12));
        CHECK.same("having(0): one phrase, the word twelve times in it", 1, x.having(0));
        x = Check.house(Houses.twins(2, 2));
        CHECK.same("having(0): 00, 01, 10", 3, x.having(0));
        x.bar(0);
        CHECK.same("having(0), barred", 0, x.having(0));
        CHECK.same("having(1)", 1, x.having(1));
    }

    // ---- promise 17

    private static void bestBounds() {
        CHECK.sentence(17, "BEST: its WORTH (k = 0), how many WORDS (1), its k-th WORD (2: the first, .. 13) .. BAD: k");
        BagPhrases x = Check.house(Houses.tenTwins(12));
        int[] wrong = {LEAST, -1, 14, GREATEST};
        for (int k : wrong) {
            CHECK.same("best(" + k + ")", BAD, x.best(k));
        }
        CHECK.same("best(0)", 108, x.best(0));
        CHECK.same("best(1)", 12, x.best(1));
        CHECK.same("best(2)", 9, x.best(2));
        CHECK.same("best(13)", 9, x.best(13));
    }

    private static void bestNone() {
        CHECK.sentence(17, "NONE: there is none (BAD is told even then: NONE is no refusal)");
        BagPhrases x = new BagPhrases();
        for (int k = 0; k <= 13; k++) {
            CHECK.same("best(" + k + ")", NONE, x.best(k));
        }
        CHECK.same("best(-1)", BAD, x.best(-1));
        CHECK.same("best(14)", BAD, x.best(14));
        BagPhrases worthless = Check.house("waA0+a^A.A");
        CHECK.same("best(0), one that is worth nothing", 0, worthless.best(0));
        CHECK.same("best(1)", 1, worthless.best(1));
    }

    private static void bestNotSoMany() {
        CHECK.sentence(17, "NONE: .. it has not so many");
        BagPhrases x = Check.house("waA3+a^A.A:AA");
        for (int size = 1; size <= 12; size++) {
            CHECK.same("best(1)", size, x.best(1));
            CHECK.same("best(" + (size + 1) + "), the last", 0, x.best(size + 1));
            CHECK.same("best(" + (size + 2) + "), one beyond", size < 12 ? NONE : BAD, x.best(size + 2));
            x.put(0);
        }
    }

    private static void bestOfLikeOnes() {
        CHECK.sentence(17, "BEST: the one of the greatest WORTH, of like ones the first");
        BagPhrases x = Check.house("waA5wbA5wabA9wbaA9waA5+a+b^A.A:AA");
        CHECK.same("best(0): 0 1, 1 0, 1 4, 4 1 are worth 10", 10, x.best(0));
        CHECK.same("best(2)", 0, x.best(2));
        CHECK.same("best(3)", 1, x.best(3));
        x.rank(4, 6);
        CHECK.same("best(2): 1 4 is ahead of 4 1", 1, x.best(2));
        CHECK.same("best(3)", 4, x.best(3));
        x.rank(0, 1);
        x.rank(4, 4);
        CHECK.same("best(0): 1 4, 2, 3, 4 1 are worth 9", 9, x.best(0));
        CHECK.same("best(1)", 2, x.best(1));
        CHECK.same("best(2)", 1, x.best(2));
        x.rank(4, 3);
        CHECK.same("best(1): 2, 3 are worth 9", 1, x.best(1));
        CHECK.same("best(2)", 2, x.best(2));
        CHECK.same("best(3)", NONE, x.best(3));
    }

    private static void bestWorths() {
        CHECK.sentence(17, "WORTH: the RANKS of its WORDS together");
        BagPhrases x = Check.house("waA0" + "+a".repeat(12) + "^A.A:AA");
        for (int rank = 0; rank <= 9; rank++) {
            x.rank(0, rank);
            CHECK.same("best(0)", 12 * rank, x.best(0));
            CHECK.same("phrase(0, 13)", 12 * rank, x.phrase(0, 13));
        }
    }

    // ---- promise 18

    private static void phraseNumberBounds() {
        CHECK.sentence(18, "Of the PHRASE of a NUMBER .. UNKNOWN: number");
        BagPhrases x = Check.house(Houses.twins(3, 2));
        CHECK.same("phrase(-1, 0)", UNKNOWN, x.phrase(-1, 0));
        CHECK.same("phrase(0, 2)", 0, x.phrase(0, 2));
        CHECK.same("phrase(8, 2)", 2, x.phrase(8, 2));
        CHECK.same("phrase(9, 0)", UNKNOWN, x.phrase(9, 0));
        CHECK.same("phrase(the least, 0)", UNKNOWN, x.phrase(Long.MIN_VALUE, 0));
        CHECK.same("phrase(the greatest, 0)", UNKNOWN, x.phrase(Long.MAX_VALUE, 0));
        CHECK.same("phrase(2^32, 0)", UNKNOWN, x.phrase(1L << 32, 0));
        CHECK.same("phrase(0, 0) of none", UNKNOWN, new BagPhrases().phrase(0, 0));
        CHECK.same("phrase(-9, 0) of none", UNKNOWN, new BagPhrases().phrase(-9, 0));
    }

    private static void phraseKBounds() {
        CHECK.sentence(18, "(k = 0), its k-th WORD (1: the first, .. 12; NONE), its WORTH (13) .. BAD: k");
        BagPhrases x = Check.house("waA3+a^A.A:AA");
        int[] wrong = {LEAST, -1, 14, GREATEST};
        for (int size = 1; size <= 12; size++) {
            CHECK.same("phrase(0, 0)", size, x.phrase(0, 0));
            CHECK.same("phrase(0, 1)", 0, x.phrase(0, 1));
            CHECK.same("phrase(0, " + size + "), the last", 0, x.phrase(0, size));
            for (int k = size + 1; k <= 12; k++) {
                CHECK.same("phrase(0, " + k + "), beyond it", NONE, x.phrase(0, k));
            }
            CHECK.same("phrase(0, 13)", 3 * size, x.phrase(0, 13));
            for (int k : wrong) {
                CHECK.same("phrase(0, " + k + ")", BAD, x.phrase(0, k));
            }
            x.put(0);
        }
    }

    private static void phraseUnknownFirst() {
        CHECK.sentence(18, "UNKNOWN: number; BAD: k (of several what is told first)");
        BagPhrases x = Check.house(Houses.twins(3, 2));
        CHECK.same("phrase(9, 14)", UNKNOWN, x.phrase(9, 14));
        CHECK.same("phrase(-1, -1)", UNKNOWN, x.phrase(-1, -1));
        CHECK.same("phrase(8, 14)", BAD, x.phrase(8, 14));
        CHECK.same("phrase(0, -1)", BAD, x.phrase(0, -1));
        CHECK.same("phrase(0, 14) of none", UNKNOWN, new BagPhrases().phrase(0, 14));
    }

    private static void phraseOfVeryMany() {
        CHECK.sentence(18, "the one that has the lesser WORD, where they first have unlike ones, is ahead");
        BagPhrases x = Check.house(Houses.tenTwins(12));
        CHECK.same("phrase(the last, 1)", 9, x.phrase(MOST - 1, 1));
        CHECK.same("phrase(the last, 12)", 9, x.phrase(MOST - 1, 12));
        CHECK.same("phrase(the last, 13)", 108, x.phrase(MOST - 1, 13));
        CHECK.same("phrase(one beyond, 0)", UNKNOWN, x.phrase(MOST, 0));
        // of ten twins the words are a number's figures
        for (int k = 1; k <= 12; k++) {
            CHECK.same("phrase(123456789012, " + k + ")", k % 10, x.phrase(123456789012L, k));
        }
    }

    private static void phraseByKinds() {
        CHECK.sentence(18, "PHRASES are in order (of those that are let alone)");
        // a b a b, by turns: 0 or 2 for a, 1 or 3 for b; 3 is of a kind that only 2 may stand ahead of
        BagPhrases x = Check.house("waA1wbB2waC3wbD4+a+a+b+b^A^C.B.D:AB:BA:BC:CD:DA:DC");
        int[][] rows = {{0, 1, 0, 1}, {0, 1, 2, 3}, {2, 3, 0, 1}, {2, 3, 2, 3}};
        int[] worths = {6, 10, 10, 14};
        CHECK.same("many(0)", rows.length, x.many(0));
        for (int number = 0; number < rows.length; number++) {
            for (int k = 1; k <= 4; k++) {
                CHECK.same("phrase(" + number + ", " + k + ")", rows[number][k - 1], x.phrase(number, k));
            }
            CHECK.same("phrase(" + number + ", 13)", worths[number], x.phrase(number, 13));
            Check.tell(x, rows[number]);
            CHECK.same("number()", number, x.number());
        }
        CHECK.same("best(0)", 14, x.best(0));
        x.rank(0, 9);
        CHECK.same("best(0): 9 2 9 2", 22, x.best(0));
        for (int k = 1; k <= 4; k++) {
            CHECK.same("best(" + (k + 1) + ")", rows[0][k - 1], x.best(k + 1));
        }
        x.rank(3, 9);
        CHECK.same("best(0): 3 9 3 9", 24, x.best(0));
        CHECK.same("best(2)", 2, x.best(2));
    }

    // ---- promise 19

    private static void tellBounds() {
        CHECK.sentence(19, "A WORD comes behind A ROW: how many it has. UNKNOWN");
        BagPhrases x = Check.house(Houses.twins(3, 1));
        CHECK.same("tell(-1)", UNKNOWN, x.tell(-1));
        CHECK.same("tell(3)", UNKNOWN, x.tell(3));
        CHECK.same("tell(the least)", UNKNOWN, x.tell(LEAST));
        CHECK.same("tell(the greatest)", UNKNOWN, x.tell(GREATEST));
        CHECK.same("about(13)", 0, x.about(13));
        CHECK.same("tell(0)", 1, x.tell(0));
        CHECK.same("tell(2)", 2, x.tell(2));
        x.bar(1);
        CHECK.same("tell(1), a barred one", 3, x.tell(1));
        CHECK.same("tell(0) of no words", UNKNOWN, new BagPhrases().tell(0));
        BagPhrases ten = Check.house(Houses.tenTwins(1));
        CHECK.same("tell(9) of ten", 1, ten.tell(9));
        CHECK.same("tell(10) of ten", UNKNOWN, ten.tell(10));
    }

    private static void rowFull() {
        CHECK.sentence(19, "FULL: there are 12");
        BagPhrases x = Check.house(Houses.twins(2, 12));
        for (int size = 1; size <= 12; size++) {
            CHECK.same("tell(1)", size, x.tell(1));
        }
        CHECK.same("number(): all 1", 4095, x.number());
        CHECK.same("tell(0), the 13th", FULL, x.tell(0));
        CHECK.same("tell(1), the 13th", FULL, x.tell(1));
        CHECK.same("about(13)", 12, x.about(13));
        CHECK.same("number() still", 4095, x.number());
        x.clear();
        CHECK.same("tell(0), with room again", 1, x.tell(0));
    }

    private static void tellUnknownFirst() {
        CHECK.sentence(19, "UNKNOWN; FULL (of several what is told first)");
        BagPhrases x = Check.house(Houses.twins(2, 12));
        for (int i = 0; i < 12; i++) {
            x.tell(0);
        }
        CHECK.same("tell(2)", UNKNOWN, x.tell(2));
        CHECK.same("tell(-1)", UNKNOWN, x.tell(-1));
        CHECK.same("tell(1)", FULL, x.tell(1));
    }

    // ---- promise 20

    private static void cleared() {
        CHECK.sentence(20, "A ROW is empty: how many WORDS it had");
        BagPhrases x = Check.house(Houses.twins(2, 12));
        CHECK.same("clear() of an empty one", 0, x.clear());
        for (int size = 1; size <= 12; size++) {
            for (int i = 0; i < size; i++) {
                x.tell(0);
            }
            CHECK.same("clear()", size, x.clear());
            CHECK.same("about(13)", 0, x.about(13));
        }
        CHECK.same("clear() twice", 0, x.clear());
        CHECK.same("why(0)", 6, x.why(0));
    }

    private static void rowStays() {
        CHECK.sentence(20, "it stays as it is, whatever is done, kept, undone, till it is told otherwise or a HOUSE is read");
        BagPhrases x = Check.house(Houses.twins(3, 2));
        Check.tell(x, 2, 1);
        CHECK.same("number()", 7, x.number());
        x.keep(0);
        x.put(0);
        x.take(0);
        x.bar(1);
        CHECK.same("why(0), barred", 1, x.why(0));
        x.undo();
        x.rank(1, 4);
        x.allow(0, 1, 0);
        x.allow(1, 1, 0);
        x.allow(2, 1, 0);
        x.again(0);
        x.unsee();
        x.drawn(3);
        x.judge(1, 3100);
        x.best(0);
        x.phrase(0, 0);
        x.left(0);
        x.share(0, true);
        x.nearly(0);
        x.wipe();
        x.write('?');
        CHECK.same("house(), refused", LATE, x.house());
        CHECK.same("about(13)", 2, x.about(13));
        CHECK.same("number()", 7, x.number());
        CHECK.same("tell(0)", 3, x.tell(0));
        x.wipe();
        x.house();
        CHECK.same("about(13) behind a house", 0, x.about(13));
    }
}
