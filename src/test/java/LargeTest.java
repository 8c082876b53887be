import java.util.HashMap;
import java.util.Map;
import java.util.Random;

/** Bags of twelve letters and very many phrases, which can not be listed: counted in other ways. */
public final class LargeTest {
    private static final Check CHECK = new Check();
    private static final String ALL_KINDS =
        "^A^B^C^D.A.B.C.D:AA:AB:AC:AD:BA:BB:BC:BD:CA:CB:CC:CD:DA:DB:DC:DD";

    public static void main(String[] args) {
        twins();
        unlikeLetters();
        Random chance = new Random(7);
        for (int run = 0; run < 150; run++) {
            CHECK.part("large house " + run);
            chosen(chance);
        }
        CHECK.end();
    }

    private static void twins() {
        CHECK.part("ten twins");
        BagPhrases x = Check.house("waA0waB1waC2waD3waA4waB5waC6waD7waA8waB9" + "+a".repeat(12) + ALL_KINDS);
        CHECK.same("many(0)", 1000000000000L, x.many(0));
        CHECK.same("many(12)", 1000000000000L, x.many(12));
        CHECK.same("many(11)", 0, x.many(11));
        CHECK.same("having(3)", 1000000000000L - 282429536481L, x.having(3));
        CHECK.same("best(0)", 108, x.best(0));
        CHECK.same("phrase(10^12, 0)", -1, x.phrase(1000000000000L, 0));
        String figures = "504938271690";
        for (int k = 1; k <= 12; k++) {
            CHECK.same("phrase(.., " + k + ")", figures.charAt(k - 1) - '0', x.phrase(504938271690L, k));
            x.tell(figures.charAt(k - 1) - '0');
        }
        CHECK.same("number()", 504938271690L, x.number());
        CHECK.same("nearly(0)", 1, x.nearly(0));
        CHECK.same("left(0)", -3, x.left(0));
    }

    private static void unlikeLetters() {
        CHECK.part("1296 places");
        BagPhrases x = Check.house("waA0wbB0wcC0wdD0weA0wfB0wgC0whD9+a+a+b+b+c+c+d+d+e+f+g+h" + ALL_KINDS);
        long due = 479001600L / 16;
        CHECK.same("many(0)", due, x.many(0));
        CHECK.same("about(8)", 12, x.about(8));
        CHECK.same("about(9)", 12, x.about(9));
        CHECK.same("having(7)", due, x.having(7));
        CHECK.same("nearly(0)", 255, x.nearly(0));
        CHECK.same("nearly(1)", 255, x.nearly(1));
        CHECK.same("many(0)", due, x.many(0));
        CHECK.same("share(0, true)", due / 8, x.share(0, true));
        CHECK.same("hope(5, false)", 256, x.hope(5, false));
        CHECK.same("phrase(last, 1)", 7, x.phrase(due - 1, 1));
        CHECK.same("phrase(last, 12)", 0, x.phrase(due - 1, 12));
        x.bar(7);
        CHECK.same("many(0)", 0, x.many(0));
        CHECK.same("nearly(0)", 0, x.nearly(0));
        CHECK.same("nearly(1)", 128, x.nearly(1));
    }

    private static void chosen(Random chance) {
        int alphabet = 2 + chance.nextInt(7);
        int count = 1 + chance.nextInt(10);
        String[] spellings = new String[count];
        StringBuilder text = new StringBuilder();
        for (int w = 0; w < count; w++) {
            StringBuilder spelling = new StringBuilder();
            for (int size = 1 + chance.nextInt(2 + chance.nextInt(3)); size > 0; size--) {
                spelling.append((char) ('a' + chance.nextInt(alphabet)));
            }
            spellings[w] = spelling.toString();
            text.append('w').append(spelling).append((char) ('A' + w % 4)).append(chance.nextInt(10));
        }
        StringBuilder bag = new StringBuilder();
        // the bag is made of the words, so that there are phrases
        for (int tries = 0; tries < 40; tries++) {
            String spelling = spellings[chance.nextInt(count)];
            if (bag.length() + spelling.length() <= 12) {
                bag.append(spelling);
            }
        }
        for (char letter : bag.toString().toCharArray()) {
            text.append('+').append(letter);
        }
        BagPhrases x = Check.house(text + ALL_KINDS);
        long total = ways(spellings, sorted(bag.toString()), new HashMap<>());
        CHECK.same("many(0) of " + text, total, x.many(0));
        long byWords = 0;
        for (int words = 1; words <= 12; words++) {
            byWords += x.many(words);
        }
        CHECK.same("many(1) .. many(12) together", total, byWords);
        for (int w = 0; w < count; w++) {
            String[] others = spellings.clone();
            others[w] = "-";
            CHECK.same("having(" + w + ")", total - ways(others, sorted(bag.toString()), new HashMap<>()), x.having(w));
        }
        roundTrips(x, total, chance);
        shares(x, count, total);
    }

    private static void roundTrips(BagPhrases x, long total, Random chance) {
        for (int i = 0; i < 5; i++) {
            long number = i == 0 ? 0 : i == 1 ? total - 1 : Math.floorMod(chance.nextLong(), total);
            x.clear();
            int size = x.phrase(number, 0);
            for (int k = 1; k <= size; k++) {
                x.tell(x.phrase(number, k));
            }
            CHECK.same("why(0) of phrase " + number, 0, x.why(0));
            CHECK.same("number() of phrase " + number, number, x.number());
            CHECK.holds("no phrase is worth more than the best", x.phrase(number, 13) <= x.best(0));
        }
    }

    /** The shares of all words together are all phrases. */
    private static void shares(BagPhrases x, int count, long total) {
        if (count > 8) {
            CHECK.same("share(0, true)", -3, x.share(0, true));
            return;
        }
        long sum = 0;
        for (int w = 0; w < count; w++) {
            sum += x.share(w, true) * (840 / x.share(w, false));
        }
        CHECK.same("840 shares together", 840 * total, sum);
    }

    private static String sorted(String letters) {
        char[] signs = letters.toCharArray();
        java.util.Arrays.sort(signs);
        return new String(signs);
    }

    private static long ways(String[] spellings, String bag, Map<String, Long> known) {
        if (bag.isEmpty()) {
            return 1;
        }
        Long before = known.get(bag);
        if (before != null) {
            return before;
        }
        long ways = 0;
        for (String spelling : spellings) {
            StringBuilder rest = new StringBuilder(bag);
            boolean fits = true;
            for (char letter : spelling.toCharArray()) {
                int at = rest.indexOf(String.valueOf(letter));
                fits = at >= 0;
                if (!fits) {
                    break;
                }
                rest.deleteCharAt(at);
            }
            ways += fits ? ways(spellings, rest.toString(), known) : 0;
        }
        known.put(bag, ways);
        return ways;
    }
}
