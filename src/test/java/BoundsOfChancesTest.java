/** The bounds that the document names in promises 25 to 31, a sentence at a time. */
public final class BoundsOfChancesTest {
    private static final Check CHECK = new Check();
    private static final int UNKNOWN = -1, BAD = -2, LATE = -3, FULL = -4, NONE = -9;
    private static final int LEAST = Integer.MIN_VALUE, GREATEST = Integer.MAX_VALUE;

    /** 2000 phrases: four times one of two, then three times one of five; one more if D begins. */
    private static final String TWO_THOUSAND =
        "waA0waA0wbB0wbB0wbB0wbB0wbB0waaaabbD0wbC0+a+a+a+a+b+b+b^A.B.C:AA:AB:BB:DC";

    public static void main(String[] args) {
        seeBounds();
        seenFull();
        seeBadFirst();
        seenTwice();
        unseen();
        leftBounds();
        leftNone();
        leftOfNothingSeen();
        aWordThatIsNone();
        soOrNot();
        wordsOfIt();
        firstAndLast();
        allThatIsSeen();
        noMoreThan2000();
        leftBadFirst();
        shareBounds();
        shareLateBarred();
        shareOfEight();
        shareUnknownFirst();
        shareInLeastTerms();
        shareByOrders();
        shareIsOnlyAsked();
        hopeBounds();
        hopeOfEight();
        hopeBadFirst();
        hopeAtTheEnds();
        hopeInLeastTerms();
        seeds();
        drawnBounds();
        drawnWrapping();
        drawnUpperBits();
        drawnOfNone();
        lastOnesNeverDrawn();
        drawnTogether();
        nothingChangesButTheSeed();
        CHECK.covered(25, 31);
        CHECK.end();
    }

    // ---- promise 25

    private static void seeBounds() {
        CHECK.sentence(25, "SEEN: how many there are. BAD: what (0 .. 3), v (0 .. 12), was (0, 1)");
        BagPhrases x = new BagPhrases();
        int[] wrongWhat = {LEAST, -1, 4, GREATEST};
        int[] wrongV = {LEAST, -1, 13, GREATEST};
        int[] wrongWas = {LEAST, -1, 2, GREATEST};
        for (int i = 0; i < 4; i++) {
            CHECK.same("see(" + wrongWhat[i] + ", 0, 0)", BAD, x.see(wrongWhat[i], 0, 0));
            for (int what = 0; what <= 3; what++) {
                CHECK.same("see(" + what + ", " + wrongV[i] + ", 1)", BAD, x.see(what, wrongV[i], 1));
            }
            CHECK.same("see(0, 0, " + wrongWas[i] + ")", BAD, x.see(0, 0, wrongWas[i]));
        }
        CHECK.same("about(11)", 0, x.about(11));
        CHECK.same("see(0, 0, 0)", 1, x.see(0, 0, 0));
        CHECK.same("see(3, 12, 1)", 2, x.see(3, 12, 1));
        CHECK.same("see(1, 0, 1)", 3, x.see(1, 0, 1));
        CHECK.same("see(2, 12, 0)", 4, x.see(2, 12, 0));
        CHECK.same("see(0, 12, 0)", 5, x.see(0, 12, 0));
        CHECK.same("see(1, 12, 1)", 6, x.see(1, 12, 1));
    }

    private static void seenFull() {
        CHECK.sentence(25, "6 such at most .. FULL: 6");
        BagPhrases x = Check.house(Houses.tenTwins(1));
        for (int size = 1; size <= 6; size++) {
            CHECK.same("see(2, " + size + ", 0)", size, x.see(2, size, 0));
            CHECK.same("left(0)", 10 - size, x.left(0));
        }
        CHECK.same("see(2, 7, 0), the 7th", FULL, x.see(2, 7, 0));
        CHECK.same("see(2, 8, 0), the 7th", FULL, x.see(2, 8, 0));
        CHECK.same("about(11)", 6, x.about(11));
        CHECK.same("left(0)", 4, x.left(0));
        x.unsee();
        CHECK.same("see(2, 7, 0), with room again", 1, x.see(2, 7, 0));
        CHECK.same("left(0)", 9, x.left(0));
    }

    private static void seeBadFirst() {
        CHECK.sentence(25, "BAD ..; FULL (of several what is told first)");
        BagPhrases x = new BagPhrases();
        for (int i = 0; i < 6; i++) {
            x.see(0, 0, 0);
        }
        CHECK.same("see(4, 0, 0)", BAD, x.see(4, 0, 0));
        CHECK.same("see(0, 13, 0)", BAD, x.see(0, 13, 0));
        CHECK.same("see(0, 0, 2)", BAD, x.see(0, 0, 2));
        CHECK.same("see(-1, -1, -1)", BAD, x.see(-1, -1, -1));
        CHECK.same("see(0, 0, 0)", FULL, x.see(0, 0, 0));
        CHECK.same("see(3, 12, 1)", FULL, x.see(3, 12, 1));
    }

    private static void seenTwice() {
        CHECK.sentence(25, "6 such at most (the same one counts each time)");
        BagPhrases x = Check.house(Houses.tenTwins(1));
        CHECK.same("see(2, 0, 0)", 1, x.see(2, 0, 0));
        CHECK.same("see(2, 0, 0)", 2, x.see(2, 0, 0));
        CHECK.same("left(0)", 9, x.left(0));
        CHECK.same("see(2, 0, 1), its contrary", 3, x.see(2, 0, 1));
        CHECK.same("left(0)", 0, x.left(0));
    }

    // ---- promise 26

    private static void unseen() {
        CHECK.sentence(26, "Nothing is SEEN: how much there was");
        BagPhrases x = Check.house(Houses.tenTwins(1));
        CHECK.same("unsee() of nothing", 0, x.unsee());
        for (int size = 1; size <= 6; size++) {
            for (int i = 0; i < size; i++) {
                x.see(0, 11, 1);
            }
            CHECK.same("left(0)", 0, x.left(0));
            CHECK.same("unsee()", size, x.unsee());
            CHECK.same("about(11)", 0, x.about(11));
            CHECK.same("left(0)", 10, x.left(0));
        }
        CHECK.same("unsee() twice", 0, x.unsee());
    }

    // ---- promise 27

    private static void leftBounds() {
        CHECK.sentence(27, "LEFT: how many (what = 0), the least NUMBER (1) .. BAD");
        BagPhrases x = Check.house(Houses.tenTwins(1));
        int[] wrong = {LEAST, -1, 2, GREATEST};
        for (int what : wrong) {
            CHECK.same("left(" + what + ")", BAD, x.left(what));
        }
        x.see(2, 0, 0);
        x.see(2, 1, 0);
        CHECK.same("left(0)", 8, x.left(0));
        CHECK.same("left(1)", 2, x.left(1));
    }

    private static void leftNone() {
        CHECK.sentence(27, "the least NUMBER (1); NONE");
        BagPhrases x = Check.house(Houses.tenTwins(1));
        x.see(2, 9, 1);
        CHECK.same("left(0), the last one", 1, x.left(0));
        CHECK.same("left(1), the last one", 9, x.left(1));
        x.see(2, 9, 0);
        CHECK.same("left(0) of none", 0, x.left(0));
        CHECK.same("left(1) of none", NONE, x.left(1));
        CHECK.same("left(0) where there is no phrase", 0, new BagPhrases().left(0));
        CHECK.same("left(1) where there is no phrase", NONE, new BagPhrases().left(1));
    }

    private static void leftOfNothingSeen() {
        CHECK.sentence(27, "none at first: PHRASES by which all that is SEEN is so");
        BagPhrases x = Check.house(Houses.tenTwins(3));
        CHECK.same("left(0)", 1000, x.left(0));
        CHECK.same("left(1)", 0, x.left(1));
    }

    private static void aWordThatIsNone() {
        CHECK.sentence(27, "(0; a WORD that is none is not in it)");
        for (int words = 1; words <= 10; words++) {
            BagPhrases x = Check.house(Houses.twins(words, 1));
            for (int v = words; v <= 12; v++) {
                x.unsee();
                x.see(0, v, 0);
                x.see(2, v, 0);
                x.see(3, v, 0);
                CHECK.same("left(0), " + v + " not seen", words, x.left(0));
                x.see(0, v, 1);
                CHECK.same("left(0), " + v + " seen", 0, x.left(0));
            }
            x.unsee();
            x.see(0, words - 1, 1);
            CHECK.same("left(1), the last word seen", words - 1, x.left(1));
        }
    }

    private static void soOrNot() {
        CHECK.sentence(27, "that a WORD is in it (what = 0) .. that it is so (1), or not (0)");
        // 0 0, 0 1, 1 0, 1 1
        BagPhrases x = Check.house(Houses.twins(2, 2));
        x.see(0, 0, 1);
        CHECK.same("left(0), 0 is in it", 3, x.left(0));
        CHECK.same("left(1), 0 is in it", 0, x.left(1));
        x.see(0, 1, 1);
        CHECK.same("left(0), 1 too", 2, x.left(0));
        CHECK.same("left(1), 1 too", 1, x.left(1));
        x.unsee();
        x.see(0, 0, 0);
        CHECK.same("left(0), 0 is not in it", 1, x.left(0));
        CHECK.same("left(1), 0 is not in it", 3, x.left(1));
    }

    private static void wordsOfIt() {
        CHECK.sentence(27, "it has v WORDS (1)");
        for (int size = 1; size <= 12; size++) {
            BagPhrases x = Check.house(Houses.twins(1, size));
            for (int v = 0; v <= 12; v++) {
                x.unsee();
                x.see(1, v, 1);
                CHECK.same("left(0), " + v + " of " + size, v == size ? 1 : 0, x.left(0));
                x.unsee();
                x.see(1, v, 0);
                CHECK.same("left(0), not " + v + " of " + size, v == size ? 0 : 1, x.left(0));
            }
        }
    }

    private static void firstAndLast() {
        CHECK.sentence(27, "the first one is v (2), the last one is v (3)");
        BagPhrases x = Check.house(Houses.tenTwins(3));
        for (int v = 0; v <= 9; v++) {
            x.unsee();
            x.see(2, v, 1);
            CHECK.same("left(0), the first is " + v, 100, x.left(0));
            CHECK.same("left(1), the first is " + v, 100 * v, x.left(1));
            x.unsee();
            x.see(3, v, 1);
            CHECK.same("left(0), the last is " + v, 100, x.left(0));
            CHECK.same("left(1), the last is " + v, v, x.left(1));
        }
        x.unsee();
        x.see(2, 10, 1);
        CHECK.same("left(0), the first is none", 0, x.left(0));
        x.unsee();
        x.see(3, 12, 1);
        CHECK.same("left(0), the last is none", 0, x.left(0));
    }

    private static void allThatIsSeen() {
        CHECK.sentence(27, "PHRASES by which all that is SEEN is so (all six)");
        BagPhrases x = Check.house(Houses.tenTwins(3));
        x.see(2, 3, 1);
        x.see(3, 5, 1);
        x.see(0, 7, 0);
        x.see(0, 8, 0);
        x.see(0, 9, 0);
        CHECK.same("left(0)", 7, x.left(0));
        x.see(0, 6, 1);
        CHECK.same("left(0)", 1, x.left(0));
        CHECK.same("left(1)", 365, x.left(1));
    }

    private static void noMoreThan2000() {
        CHECK.sentence(27, "no more than 2000 PHRASES; LATE: there are more than 2000 PHRASES");
        BagPhrases x = Check.house(TWO_THOUSAND);
        CHECK.same("many(0)", 2000, x.many(0));
        CHECK.same("left(0)", 2000, x.left(0));
        CHECK.same("left(1)", 0, x.left(1));
        x.allow(0, 3, 0);
        CHECK.same("many(0)", 2001, x.many(0));
        CHECK.same("left(0)", LATE, x.left(0));
        CHECK.same("left(1)", LATE, x.left(1));
        x.see(2, 7, 1);
        CHECK.same("left(0): few by what is seen, too many all the same", LATE, x.left(0));
        x.undo();
        CHECK.same("left(0)", 0, x.left(0));
        CHECK.same("left(0) of a million millions", LATE, Check.house(Houses.tenTwins(12)).left(0));
    }

    private static void leftBadFirst() {
        CHECK.sentence(27, "BAD; LATE (of several what is told first)");
        BagPhrases x = Check.house(Houses.tenTwins(12));
        CHECK.same("left(2)", BAD, x.left(2));
        CHECK.same("left(-1)", BAD, x.left(-1));
        CHECK.same("left(0)", LATE, x.left(0));
        CHECK.same("left(1)", LATE, x.left(1));
    }

    // ---- promise 28

    private static void share(BagPhrases x, int word, long above, long below) {
        CHECK.same("share(" + word + ", true)", above, x.share(word, true));
        CHECK.same("share(" + word + ", false)", below, x.share(word, false));
    }

    private static void shareBounds() {
        CHECK.sentence(28, "SHARE. UNKNOWN");
        BagPhrases x = Check.house(Houses.twins(3, 1));
        int[] wrong = {LEAST, -1, 3, 10, GREATEST};
        for (int word : wrong) {
            share(x, word, UNKNOWN, UNKNOWN);
        }
        share(x, 0, 1, 1);
        share(x, 2, 1, 1);
        share(new BagPhrases(), 0, UNKNOWN, UNKNOWN);
    }

    private static void shareLateBarred() {
        CHECK.sentence(28, "LATE: it is BARRED");
        BagPhrases x = Check.house(Houses.twins(3, 1));
        x.bar(1);
        share(x, 1, LATE, LATE);
        share(x, 0, 1, 1);
        x.bar(1);
        share(x, 1, 1, 1);
        for (int word = 0; word < 3; word++) {
            x.bar(word);
        }
        for (int word = 0; word < 3; word++) {
            share(x, word, LATE, LATE);
        }
    }

    private static void shareOfEight() {
        CHECK.sentence(28, "no more than 8 are not BARRED; LATE: .. more than 8 are not");
        for (int words = 1; words <= 10; words++) {
            BagPhrases x = Check.house(Houses.twins(words, 2));
            for (int barred = 0; barred < words; barred++) {
                int free = words - barred;
                // of free^2 phrases each of the words has as much as the others
                share(x, words - 1, free > 8 ? LATE : free, free > 8 ? LATE : 1);
                x.bar(barred);
            }
        }
    }

    private static void shareUnknownFirst() {
        CHECK.sentence(28, "UNKNOWN; LATE (of several what is told first)");
        BagPhrases x = Check.house(Houses.twins(9, 1));
        share(x, 9, UNKNOWN, UNKNOWN);
        share(x, -1, UNKNOWN, UNKNOWN);
        share(x, 8, LATE, LATE);
    }

    private static void shareInLeastTerms() {
        CHECK.sentence(28, "a FRACTION .. told above (upper = true ..), below, in least terms");
        // 0 1 alone is a phrase: half of it by each
        BagPhrases x = Check.house("waA0wbB0+a+b^A.B:AB");
        share(x, 0, 1, 2);
        share(x, 1, 1, 2);
        // 0 1 2: a third; a word that is in none: 0 of 1
        x = Check.house("waA0wbB0wcC0wdC0+a+b+c^A.C:AB:BC");
        share(x, 0, 1, 3);
        share(x, 2, 1, 3);
        share(x, 3, 0, 1);
        // eight unlike words in each phrase
        x = Check.house("waA0wbB0wcA0wdB0weA0wfB0wgA0whC0+a+b+c+d+e+f+g+h^A.C:AB:BA:AC:AA:BB");
        CHECK.same("many(0): 4 3 5! with A at both ends, h behind", 1440, x.many(0));
        share(x, 0, 180, 1);
        share(x, 7, 180, 1);
        // 0 by itself, 1 1 by 1 alone
        x = Check.house("waaA0waA0wabB0+a+a^A.A:AA");
        share(x, 0, 1, 1);
        share(x, 1, 1, 1);
        share(x, 2, 0, 1);
    }

    private static void shareByOrders() {
        CHECK.sentence(28, "in each order as likely: by how many PHRASES there are more in the mean when it has come");
        // 0 0 1, 0 1 0, 0 2, 1 0 0, 2 0: a phrase is shared evenly by the unlike words in it
        BagPhrases x = Check.house("waA2wbA3wabB9wccC0+a+b+a^A^B.A.B:AA:AB:BA");
        share(x, 0, 5, 2);
        share(x, 1, 3, 2);
        share(x, 2, 1, 1);
        share(x, 3, 0, 1);
        // abc by itself, and a, b, c in each order
        x = Check.house("wabcA0waA0wbA0wcA0wabA0+a+b+c^A.A:AA");
        // ab c, c ab too
        share(x, 0, 1, 1);
        share(x, 1, 2, 1);
        share(x, 3, 3, 1);
        share(x, 4, 1, 1);
        x.bar(3);
        share(x, 0, 1, 1);
        share(x, 1, 0, 1);
    }

    private static void shareIsOnlyAsked() {
        CHECK.sentence(28, "if these come one by one (others are BARRED): only as if");
        BagPhrases x = Check.house(Houses.twins(8, 2));
        x.bar(7);
        x.rank(0, 9);
        share(x, 0, 7, 1);
        CHECK.same("about(3)", 128, x.about(3));
        CHECK.same("about(10)", 2, x.about(10));
        CHECK.same("many(0)", 49, x.many(0));
        CHECK.same("best(0)", 18, x.best(0));
    }

    // ---- promise 29

    private static void hope(BagPhrases x, int tenths, int above, int below) {
        CHECK.same("hope(" + tenths + ", true)", above, x.hope(tenths, true));
        CHECK.same("hope(" + tenths + ", false)", below, x.hope(tenths, false));
    }

    private static void hopeBounds() {
        CHECK.sentence(29, "BAD: x (x tenths (0 .. 10))");
        BagPhrases x = Check.house("waA0+a^A.A");
        int[] wrong = {LEAST, -1, 11, GREATEST};
        for (int tenths : wrong) {
            hope(x, tenths, BAD, BAD);
        }
        int[][] due = {{1, 1}, {9, 10}, {4, 5}, {7, 10}, {3, 5}, {1, 2}, {2, 5}, {3, 10}, {1, 5}, {1, 10}, {0, 1}};
        for (int tenths = 0; tenths <= 10; tenths++) {
            hope(x, tenths, due[tenths][0], due[tenths][1]);
        }
    }

    private static void hopeOfEight() {
        CHECK.sentence(29, "each WORD that is not BARRED (no more than 8); LATE: more than 8 are not BARRED");
        for (int words = 0; words <= 10; words++) {
            BagPhrases x = Check.house(Houses.twins(words, 1));
            for (int barred = 0; barred <= words; barred++) {
                int free = words - barred;
                // there is one if not all are barred: of two to the so manieth all but one
                hope(x, 5, free > 8 ? LATE : (1 << free) - 1, free > 8 ? LATE : 1 << free);
                if (barred < words) {
                    x.bar(barred);
                }
            }
        }
    }

    private static void hopeBadFirst() {
        CHECK.sentence(29, "BAD: x; LATE (of several what is told first)");
        BagPhrases x = Check.house(Houses.twins(9, 1));
        hope(x, -1, BAD, BAD);
        hope(x, 11, BAD, BAD);
        hope(x, 0, LATE, LATE);
        hope(x, 10, LATE, LATE);
    }

    private static void hopeAtTheEnds() {
        CHECK.sentence(29, "x tenths (0 .. 10), by itself: that there is a PHRASE");
        BagPhrases x = Check.house(Houses.twins(8, 12));
        hope(x, 0, 1, 1);
        hope(x, 10, 0, 1);
        hope(x, 9, 56953279, 100000000);
        hope(x, 1, 99999999, 100000000);
        x = Check.house("waA0wbA0+a^A.A");
        hope(x, 0, 1, 1);
        hope(x, 10, 0, 1);
        x.take(0);
        hope(x, 0, 0, 1);
        hope(x, 5, 0, 1);
        hope(x, 10, 0, 1);
        hope(new BagPhrases(), 0, 0, 1);
        hope(new BagPhrases(), 10, 0, 1);
    }

    private static void hopeInLeastTerms() {
        CHECK.sentence(29, "a FRACTION .. in least terms");
        BagPhrases x = Check.house("waA0wbA0wcA0wdA0weA0wfA0wgA0whA0+a+b+c+d+e+f+g+h^A.A:AA");
        hope(x, 5, 1, 256);
        hope(x, 2, 65536, 390625);
        hope(x, 9, 1, 100000000);
        hope(x, 8, 1, 390625);
        hope(x, 0, 1, 1);
        hope(x, 10, 0, 1);
        CHECK.same("about(3): nothing is barred by it", 0, x.about(3));
    }

    // ---- promise 30

    private static void seeds() {
        CHECK.sentence(30, "THE SEED (a long; 0 at first) is v: what it was");
        BagPhrases x = new BagPhrases();
        long[] values = {1, -1, Long.MAX_VALUE, Long.MIN_VALUE, 1L << 32, 0, -9};
        long was = 0;
        for (long v : values) {
            CHECK.same("seed(" + v + ")", was, x.seed(v));
            was = v;
        }
        CHECK.same("about(10): it is no doing", 0, x.about(10));
    }

    // ---- promise 31

    private static final long TIMES = 6364136223846793005L, MORE = 1442695040888963407L;

    private static long gone(long seed, int times) {
        long x = seed;
        for (int i = 0; i < times; i++) {
            x = x * TIMES + MORE;
        }
        return x;
    }

    private static void drawnBounds() {
        CHECK.sentence(31, "m times (1 .. 20) .. BAD: m");
        BagPhrases x = Check.house("waA3+a^A.A");
        int[] wrong = {LEAST, -1, 0, 21, GREATEST};
        for (int m : wrong) {
            CHECK.same("drawn(" + m + ")", BAD, x.drawn(m));
        }
        CHECK.same("seed(0): it has not gone on", 0, x.seed(0));
        for (int m = 1; m <= 20; m++) {
            CHECK.same("drawn(" + m + ")", 3 * m, x.drawn(m));
            CHECK.same("seed(0): gone on so many times", gone(0, m), x.seed(0));
        }
    }

    private static void drawnWrapping() {
        CHECK.sentence(31, "(64 bits, wrapping)");
        BagPhrases x = Check.house("waA3+a^A.A");
        long[] seeds = {0, 1, -1, Long.MAX_VALUE, Long.MIN_VALUE, TIMES, -TIMES, MORE};
        for (long seed : seeds) {
            x.seed(seed);
            x.drawn(1);
            CHECK.same("seed(0) behind " + seed, seed * TIMES + MORE, x.seed(0));
        }
        CHECK.same("by hand: 1 becomes", 7806831264735756412L, gone(1, 1));
        CHECK.same("by hand: 2 becomes, wrapping", -4275776585127002199L, gone(2, 1));
    }

    /** The seed that becomes x: the factor is odd, so it has an inverse. */
    private static long before(long x) {
        long inverse = 1;
        for (int i = 0; i < 6; i++) {
            inverse *= 2 - TIMES * inverse;
        }
        return (x - MORE) * inverse;
    }

    private static void drawnUpperBits() {
        CHECK.sentence(31, "what is left of its upper 31 bits by how many PHRASES there are is a NUMBER");
        // ten phrases of one word, by ranks 0 .. 9: the worth drawn is the number
        BagPhrases x = Check.house(Houses.tenTwins(1));
        long[] uppers = {0, 1, 9, 10, 11, 99, 1L << 30, (1L << 31) - 1, (1L << 31) - 8};
        long[] lowers = {0, 1, (1L << 33) - 1, 1L << 32, 1L << 31};
        for (long upper : uppers) {
            for (long lower : lowers) {
                x.seed(before(upper << 33 | lower));
                CHECK.same("drawn(1) by " + upper + ", " + lower, upper % 10, x.drawn(1));
                CHECK.same("seed(0)", upper << 33 | lower, x.seed(0));
            }
        }
    }

    private static void drawnOfNone() {
        CHECK.sentence(31, "(0, if there is none; THE SEED goes on)");
        BagPhrases x = new BagPhrases();
        CHECK.same("drawn(1)", 0, x.drawn(1));
        CHECK.same("seed(5)", gone(0, 1), x.seed(5));
        CHECK.same("drawn(20)", 0, x.drawn(20));
        CHECK.same("seed(5)", gone(5, 20), x.seed(5));
        CHECK.same("drawn(21)", BAD, x.drawn(21));
        CHECK.same("seed(5)", 5, x.seed(5));
    }

    private static void lastOnesNeverDrawn() {
        CHECK.sentence(31, "(so of very many the last ones are never drawn)");
        // of ten twins a number's figures are its words, and their ranks: 2147483647 at most, of 10^12
        BagPhrases x = Check.house(Houses.tenTwins(12));
        x.seed(before(-1));
        CHECK.same("drawn(1), the last that can be: 2147483647", 2 + 1 + 4 + 7 + 4 + 8 + 3 + 6 + 4 + 7, x.drawn(1));
        CHECK.same("seed(0)", -1, x.seed(before(0)));
        CHECK.same("drawn(1), the first", 0, x.drawn(1));
        x.seed(before(999999999L << 33));
        CHECK.same("drawn(1), 999999999", 81, x.drawn(1));
    }

    private static void drawnTogether() {
        CHECK.sentence(31, "the WORTHS of these, together");
        BagPhrases x = Check.house(Houses.tenTwins(1));
        long seed = 77;
        for (int m = 1; m <= 20; m++) {
            int due = 0;
            x.seed(seed);
            for (int i = 1; i <= m; i++) {
                due += (int) ((gone(seed, i) >>> 33) % 10);
            }
            CHECK.same("drawn(" + m + ")", due, x.drawn(m));
            seed = gone(seed, m);
            CHECK.same("seed(.)", seed, x.seed(seed));
        }
        x = Check.house("waA9" + "+a".repeat(12) + "^A.A:AA");
        CHECK.same("drawn(20), the most", 2160, x.drawn(20));
    }

    private static void nothingChangesButTheSeed() {
        CHECK.sentence(31, "(Nothing changes but THE SEED.)");
        String one = View.of(() -> drawingOnes(false));
        String other = View.of(() -> drawingOnes(true));
        CHECK.holds("all that is told is the same", one.equals(other));
    }

    private static BagPhrases drawingOnes(boolean draws) {
        BagPhrases x = Check.house(Houses.twins(4, 3));
        x.bar(0);
        x.keep(1);
        x.put(0);
        x.tell(2);
        x.see(0, 1, 1);
        if (draws) {
            x.drawn(20);
        }
        x.seed(3);
        return x;
    }
}
