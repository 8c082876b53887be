/** Promises 28 to 31: shares, hope, the seed, phrases drawn. */
public final class ChancesTest {
    private static final Check CHECK = new Check();

    /** Phrases: 0 0 1, 0 1 0, 0 2, 1 0 0, 2 0. */
    private static final String HOUSE = "waA2wbA3wabB9wccC0+a+b+a^A^B.A.B:AA:AB:BA";

    public static void main(String[] args) {
        sharing();
        sharingRefused();
        hoping();
        hopingRefused();
        seeding();
        drawing();
        drawingOfVeryMany();
        CHECK.end();
    }

    private static void share(BagPhrases x, int word, long above, long below) {
        CHECK.same("share(" + word + ", true)", above, x.share(word, true));
        CHECK.same("share(" + word + ", false)", below, x.share(word, false));
    }

    private static void sharing() {
        CHECK.part("promise 28");
        BagPhrases x = Check.house(HOUSE);
        // each phrase is shared evenly by the unlike words in it
        share(x, 0, 5, 2);
        share(x, 1, 3, 2);
        share(x, 2, 1, 1);
        share(x, 3, 0, 1);
        x.bar(2);
        share(x, 0, 3, 2);
        share(x, 1, 3, 2);
        // eight words, and one phrase that needs seven of them
        x = Check.house("waA0wbA0wcA0wdA0weA0wfA0wgA0whB0+a+b+c+d+e+f+g^A.A:AA");
        CHECK.same("many(0)", 5040, x.many(0));
        share(x, 6, 720, 1);
        share(x, 7, 0, 1);
        CHECK.same("about(10)", 0, x.about(10));
        // 8 twins: 8^12 phrases, of which each has an eighth
        x = Check.house("waA0waA0waA0waA0waB0waB0waC0waD0" + "+a".repeat(12)
            + "^A^B^C^D.A.B.C.D:AA:AB:AC:AD:BA:BB:BC:BD:CA:CB:CC:CD:DA:DB:DC:DD");
        CHECK.same("many(0)", 68719476736L, x.many(0));
        for (int word = 0; word < 8; word++) {
            share(x, word, 8589934592L, 1);
        }
        // 0 by itself, and 0 1 2 in each order: 1 + 6 / 3
        x = Check.house("wabcA0waA0wbA0wcA0+a+b+c^A.A:AA");
        share(x, 0, 1, 1);
        share(x, 2, 2, 1);
    }

    private static void sharingRefused() {
        CHECK.part("promise 28, refusals");
        BagPhrases x = Check.house("waA0waA0waA0waA0waA0waA0waA0waA0waA0+a^A.A");
        CHECK.same("share(9)", -1, x.share(9, true));
        CHECK.same("share(-1)", -1, x.share(-1, false));
        CHECK.same("share(0), nine", -3, x.share(0, true));
        CHECK.same("share(0), nine", -3, x.share(0, false));
        x.bar(3);
        CHECK.same("share(3), barred", -3, x.share(3, true));
        share(x, 0, 1, 1);
        x.bar(4);
        CHECK.same("share(4), barred", -3, x.share(4, false));
        CHECK.same("share(9)", -1, x.share(9, true));
        CHECK.same("share(0) of no words", -1, new BagPhrases().share(0, true));
    }

    private static void hope(BagPhrases x, int tenths, int above, int below) {
        CHECK.same("hope(" + tenths + ", true)", above, x.hope(tenths, true));
        CHECK.same("hope(" + tenths + ", false)", below, x.hope(tenths, false));
    }

    private static void hoping() {
        CHECK.part("promise 29");
        BagPhrases x = Check.house(HOUSE);
        // 0 is open, and 1 or 2 is: (1 - p) (1 - p p)
        hope(x, 0, 1, 1);
        hope(x, 1, 891, 1000);
        hope(x, 5, 3, 8);
        hope(x, 10, 0, 1);
        x.bar(1);
        hope(x, 1, 81, 100);
        x.bar(0);
        hope(x, 1, 0, 1);
        hope(x, 0, 0, 1);
        hope(new BagPhrases(), 0, 0, 1);
        x = Check.house("waA0waA0waA0waA0waA0waA0waA0waA0+a^A.A");
        hope(x, 1, 99999999, 100000000);
        hope(x, 9, 56953279, 100000000);
        hope(x, 5, 255, 256);
        x = Check.house("waA0wbA0wcA0wdA0weA0wfA0wgA0whA0+a+b+c+d+e+f+g+h^A.A:AA");
        hope(x, 5, 1, 256);
        hope(x, 1, 43046721, 100000000);
        x = Check.house("wbA0wbA0wbA0wbA0wbA0wbA0wbA0waA0+a^A.A:AA");
        hope(x, 3, 7, 10);
        x = Check.house("wbA0wbA0wbA0wbA0wbA0wbA0waA0wbA0+a^A.A:AA");
        hope(x, 3, 7, 10);
    }

    private static void hopingRefused() {
        CHECK.part("promise 29, refusals");
        BagPhrases x = Check.house("waA0waA0waA0waA0waA0waA0waA0waA0waA0waA0+a^A.A");
        CHECK.same("hope(11), ten", -2, x.hope(11, true));
        CHECK.same("hope(-1), ten", -2, x.hope(-1, true));
        CHECK.same("hope(5), ten", -3, x.hope(5, true));
        x.bar(9);
        CHECK.same("hope(5), nine", -3, x.hope(5, false));
        x.bar(0);
        hope(x, 5, 255, 256);
        CHECK.same("hope(11)", -2, x.hope(11, false));
        x.undo();
        CHECK.same("hope(5), nine again", -3, x.hope(5, false));
    }

    private static void seeding() {
        CHECK.part("promise 30");
        BagPhrases x = new BagPhrases();
        CHECK.same("seed(9)", 0, x.seed(9));
        CHECK.same("seed(-1)", 9, x.seed(-1));
        CHECK.same("seed(the least)", -1, x.seed(Long.MIN_VALUE));
        CHECK.same("seed(the greatest)", Long.MIN_VALUE, x.seed(Long.MAX_VALUE));
        CHECK.same("seed(0)", Long.MAX_VALUE, x.seed(0));
    }

    private static long next(long seed) {
        return seed * 6364136223846793005L + 1442695040888963407L;
    }

    private static void drawing() {
        CHECK.part("promise 31");
        BagPhrases x = Check.house(HOUSE);
        CHECK.same("drawn(0)", -2, x.drawn(0));
        CHECK.same("drawn(-1)", -2, x.drawn(-1));
        CHECK.same("drawn(21)", -2, x.drawn(21));
        CHECK.same("seed(-5): it has not gone on", 0, x.seed(-5));
        int[] worths = {7, 7, 11, 7, 11};
        long seed = -5;
        for (int m = 1; m <= 20; m++) {
            int due = 0;
            for (int i = 0; i < m; i++) {
                seed = next(seed);
                due += worths[(int) ((seed >>> 33) % 5)];
            }
            CHECK.same("drawn(" + m + ")", due, x.drawn(m));
        }
        CHECK.same("seed(3): it has gone on", seed, x.seed(3));
        x.bar(0);
        CHECK.same("drawn(2) of none", 0, x.drawn(2));
        CHECK.same("seed(0): it has gone on", next(next(3)), x.seed(0));
        CHECK.same("about(10)", 1, x.about(10));
    }

    private static void drawingOfVeryMany() {
        CHECK.part("promise 31, of very many");
        StringBuilder text = new StringBuilder();
        int[] ranks = {3, 1, 4, 1, 5, 9, 2, 6, 8, 7};
        for (int rank : ranks) {
            text.append("waA").append(rank);
        }
        BagPhrases x = Check.house(text + "+a".repeat(12) + "^A.A:AA");
        // ten twins: a number's twelve figures are its words
        long seed = 0;
        for (int i = 0; i < 20; i++) {
            seed = next(seed);
            int due = 0;
            for (char figure : String.format("%012d", seed >>> 33).toCharArray()) {
                due += ranks[figure - '0'];
            }
            CHECK.same("drawn(1)", due, x.drawn(1));
        }
    }
}
