import java.math.BigInteger;
import java.util.ArrayList;
import java.util.Arrays;
import java.util.HashMap;
import java.util.List;
import java.util.Map;

/**
 * Phrases by what may be left of a bag and the kind ahead, each remembered once it is known: for bags whose phrases
 * are too many to be listed. It shares no code with the class: bags are texts, counts are held by words.
 */
final class Memo {
    static final int NONE = -9;
    private static final int START = 4;

    final List<String> spellings = new ArrayList<>();
    final List<Integer> kinds = new ArrayList<>();
    final int[] ranks = new int[10];
    final boolean[] barred = new boolean[10];
    final boolean[] begins = new boolean[4];
    final boolean[] ends = new boolean[4];
    final boolean[][] follows = new boolean[4][4];
    String bag = "";
    private final Map<String, long[]> known = new HashMap<>();

    /** To be said when anything has changed. */
    void forget() {
        known.clear();
    }

    String text() {
        StringBuilder text = new StringBuilder();
        for (int word = 0; word < spellings.size(); word++) {
            text.append('w').append(spellings.get(word)).append((char) ('A' + kinds.get(word))).append(ranks[word]);
        }
        for (char letter : bag.toCharArray()) {
            text.append('+').append(letter);
        }
        for (int kind = 0; kind < 4; kind++) {
            char name = (char) ('A' + kind);
            text.append(begins[kind] ? "^" + name : "").append(ends[kind] ? "." + name : "");
            for (int next = 0; next < 4; next++) {
                text.append(follows[kind][next] ? ":" + name + (char) ('A' + next) : "");
            }
        }
        return text.toString();
    }

    static String sorted(String letters) {
        char[] signs = letters.toCharArray();
        Arrays.sort(signs);
        return new String(signs);
    }

    /** Null: the word is not in it. */
    private static String without(String letters, String word) {
        StringBuilder rest = new StringBuilder(letters);
        for (char letter : word.toCharArray()) {
            int at = rest.indexOf(String.valueOf(letter));
            if (at < 0) {
                return null;
            }
            rest.deleteCharAt(at);
        }
        return rest.toString();
    }

    private String behind(String left, int ahead, int word) {
        int kind = kinds.get(word);
        boolean let = ahead == START ? begins[kind] : follows[ahead][kind];
        return let && !barred[word] ? without(left, spellings.get(word)) : null;
    }

    /** How many ends there are of 0, 1, .. 13 words; at last, at 14, the greatest worth of one (or NONE). */
    private long[] tails(String left, int ahead) {
        String key = left + ahead;
        if (known.containsKey(key)) {
            return known.get(key);
        }
        long[] tails = new long[15];
        tails[14] = NONE;
        if (left.isEmpty() && ahead != START && ends[ahead]) {
            tails[0] = 1;
            tails[14] = 0;
        }
        for (int word = 0; word < spellings.size() && !left.isEmpty(); word++) {
            String rest = behind(left, ahead, word);
            if (rest != null) {
                long[] shorter = tails(rest, kinds.get(word));
                for (int size = 1; size <= 13; size++) {
                    tails[size] += shorter[size - 1];
                }
                tails[14] = shorter[14] == NONE ? tails[14] : Math.max(tails[14], shorter[14] + ranks[word]);
            }
        }
        known.put(key, tails);
        return tails;
    }

    private static long together(long[] tails) {
        return Arrays.stream(tails, 0, 14).sum();
    }

    long many(int words) {
        long[] all = tails(sorted(bag), START);
        return words == 0 ? together(all) : all[words];
    }

    /** How many there are with these words alone (as bits). */
    long within(int words) {
        boolean[] before = barred.clone();
        for (int word = 0; word < spellings.size(); word++) {
            barred[word] = before[word] || (words >> word & 1) == 0;
        }
        forget();
        long many = many(0);
        System.arraycopy(before, 0, barred, 0, before.length);
        forget();
        return many;
    }

    long withBag(String letters) {
        String before = bag;
        bag = letters;
        long many = many(0);
        bag = before;
        return many;
    }

    int bestWorth() {
        return (int) tails(sorted(bag), START)[14];
    }

    /** The first one of the greatest worth. */
    List<Integer> best() {
        List<Integer> best = new ArrayList<>();
        String left = sorted(bag);
        int ahead = START;
        long goal = bestWorth();
        while (goal != NONE && !left.isEmpty()) {
            for (int word = 0; word < spellings.size(); word++) {
                String rest = behind(left, ahead, word);
                long tail = rest == null ? NONE : tails(rest, kinds.get(word))[14];
                if (tail != NONE && tail + ranks[word] == goal) {
                    best.add(word);
                    left = rest;
                    ahead = kinds.get(word);
                    goal = tail;
                    break;
                }
            }
        }
        return best;
    }

    List<Integer> phrase(long number) {
        List<Integer> phrase = new ArrayList<>();
        String left = sorted(bag);
        int ahead = START;
        long before = number;
        while (!left.isEmpty()) {
            for (int word = 0; word < spellings.size(); word++) {
                String rest = behind(left, ahead, word);
                long ways = rest == null ? 0 : together(tails(rest, kinds.get(word)));
                if (before < ways) {
                    phrase.add(word);
                    left = rest;
                    ahead = kinds.get(word);
                    break;
                }
                before -= ways;
            }
        }
        return phrase;
    }

    int worth(List<Integer> phrase) {
        return phrase.stream().mapToInt(word -> ranks[word]).sum();
    }

    int free() {
        int free = 0;
        for (int word = 0; word < spellings.size(); word++) {
            free += barred[word] ? 0 : 1;
        }
        return free;
    }

    private boolean isFree(int words) {
        for (int word = 0; word < barred.length; word++) {
            if ((words >> word & 1) != 0 && barred[word]) {
                return false;
            }
        }
        return true;
    }

    private static BigInteger factorial(int n) {
        return n < 2 ? BigInteger.ONE : BigInteger.valueOf(n).multiply(factorial(n - 1));
    }

    /** Each set of the others, as often as it comes ahead of the word. */
    long share(int word, boolean upper) {
        BigInteger sum = BigInteger.ZERO;
        for (int set = 0; set < 1 << spellings.size(); set++) {
            if (isFree(set) && (set >> word & 1) == 0) {
                int ahead = Integer.bitCount(set);
                long more = within(set | 1 << word) - within(set);
                sum = sum.add(factorial(ahead).multiply(factorial(free() - 1 - ahead)).multiply(BigInteger.valueOf(more)));
            }
        }
        return leastTerms(sum, factorial(free()), upper);
    }

    long hope(int tenths, boolean upper) {
        BigInteger sum = BigInteger.ZERO;
        for (int set = 0; set < 1 << spellings.size(); set++) {
            if (isFree(set) && within(set) > 0) {
                int open = Integer.bitCount(set);
                sum = sum.add(BigInteger.valueOf(10 - tenths).pow(open).multiply(BigInteger.valueOf(tenths).pow(free() - open)));
            }
        }
        return leastTerms(sum, BigInteger.TEN.pow(free()), upper);
    }

    private static long leastTerms(BigInteger above, BigInteger below, boolean upper) {
        BigInteger common = above.gcd(below);
        return (upper ? above : below).divide(common).longValueExact();
    }
}
