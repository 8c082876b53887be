import java.math.BigInteger;
import java.util.ArrayDeque;
import java.util.ArrayList;
import java.util.Deque;
import java.util.List;
import java.util.regex.Matcher;
import java.util.regex.Pattern;

/**
 * The document told in the slowest and plainest way, over lists of all phrases: what BagPhrases
 * answers is compared with this. It shares no code and no idea with the class.
 */
final class Naive {
    static final int UNKNOWN = -1, BAD = -2, LATE = -3, FULL = -4, NONE = -9;

    /** Phrases beyond this many are not listed; the driver leaves such bags alone. */
    static final int TOO_MANY_TO_LIST = 12000;

    private static final Pattern PART =
        Pattern.compile("w([a-h]{1,6})([A-D])([0-9])|\\+([a-h])|\\^([A-D])|\\.([A-D])|:([A-D])([A-D])");

    private static final class House {
        List<String> spellings = new ArrayList<>();
        List<Integer> kinds = new ArrayList<>();
        State state = new State();
    }

    private static final class State {
        String bag = "";
        List<Integer> ranks = new ArrayList<>();
        List<Integer> barred = new ArrayList<>();
        String begin = "";
        String end = "";
        List<String> follow = new ArrayList<>();

        State copy() {
            State other = new State();
            other.bag = bag;
            other.ranks.addAll(ranks);
            other.barred.addAll(barred);
            other.begin = begin;
            other.end = end;
            other.follow.addAll(follow);
            return other;
        }

        @Override
        public String toString() {
            return bag + " " + barred + " " + begin + " " + end + " " + follow;
        }
    }

    private String text = "";
    private House house = new House();
    private State state = house.state;
    private final Deque<State> past = new ArrayDeque<>();
    private State[] slots = new State[2];
    private List<Integer> row = new ArrayList<>();
    private final List<int[]> seen = new ArrayList<>();
    private long seed = 0;
    /** Whether a list was cut short since this was last set back: then what was told may be wrong. */
    boolean cutShort = false;
    private String listedState = "";
    private List<List<Integer>> listed = new ArrayList<>();

    // ---- the house

    int write(int letter) {
        if (letter < 0 || letter > 255) {
            return BAD;
        }
        if (text.length() == 180) {
            return FULL;
        }
        text += (char) letter;
        return text.length();
    }

    int wipe() {
        int size = text.length();
        text = "";
        return size;
    }

    private static House parse(String text) {
        House house = new House();
        Matcher matcher = PART.matcher(text);
        int at = 0;
        while (at < text.length()) {
            if (!matcher.find(at) || matcher.start() != at) {
                return null;
            }
            at = matcher.end();
            State state = house.state;
            if (matcher.group(1) != null) {
                house.spellings.add(matcher.group(1));
                house.kinds.add(matcher.group(2).charAt(0) - 'A');
                state.ranks.add(Integer.parseInt(matcher.group(3)));
            } else if (matcher.group(4) != null) {
                state.bag += matcher.group(4);
            } else if (matcher.group(5) != null) {
                if (state.begin.contains(matcher.group(5))) {
                    return null;
                }
                state.begin += matcher.group(5);
            } else if (matcher.group(6) != null) {
                if (state.end.contains(matcher.group(6))) {
                    return null;
                }
                state.end += matcher.group(6);
            } else {
                String pair = matcher.group(7) + matcher.group(8);
                if (state.follow.contains(pair)) {
                    return null;
                }
                state.follow.add(pair);
            }
        }
        return house.spellings.size() > 10 || house.state.bag.length() > 12 ? null : house;
    }

    private static boolean canBecomeHouse(String text) {
        if (parse(text) != null || parse(text + "a") != null || parse(text + "aA0") != null
            || parse(text + "A0") != null || parse(text + "0") != null) {
            return true;
        }
        for (char one = 'A'; one <= 'D'; one++) {
            if (parse(text + one) != null) {
                return true;
            }
            for (char other = 'A'; other <= 'D'; other++) {
                if (parse(text + one + other) != null) {
                    return true;
                }
            }
        }
        return false;
    }

    int fault() {
        for (int i = 0; i < text.length(); i++) {
            if (!canBecomeHouse(text.substring(0, i + 1))) {
                return i;
            }
        }
        return parse(text) == null ? text.length() : NONE;
    }

    int house() {
        House read = parse(text);
        if (read == null) {
            return LATE;
        }
        house = read;
        state = read.state;
        past.clear();
        slots = new State[2];
        row = new ArrayList<>();
        return words();
    }

    int words() {
        return house.spellings.size();
    }

    private static int amount(String letters, int letter) {
        return (int) letters.chars().filter(c -> c == 'a' + letter).count();
    }

    private static int bits(String kinds) {
        int bits = 0;
        for (char kind : kinds.toCharArray()) {
            bits |= 1 << kind - 'A';
        }
        return bits;
    }

    private static boolean within(String part, String bag) {
        for (int letter = 0; letter < 8; letter++) {
            if (amount(part, letter) > amount(bag, letter)) {
                return false;
            }
        }
        return true;
    }

    private static String without(String bag, String part) {
        StringBuilder rest = new StringBuilder(bag);
        for (char letter : part.toCharArray()) {
            rest.deleteCharAt(rest.indexOf(String.valueOf(letter)));
        }
        return rest.toString();
    }

    int about(int what) {
        List<List<Integer>> all = what >= 7 && what <= 9 ? phrases() : List.of();
        switch (what) {
            case 0: return words();
            case 1: return state.bag.length();
            case 2: return (int) state.bag.chars().distinct().count();
            case 3: return state.barred.stream().mapToInt(w -> 1 << w).sum();
            case 4: return bits(state.begin);
            case 5: return bits(state.end);
            case 6: {
                int bits = 0;
                for (int w = 0; w < words(); w++) {
                    bits |= within(house.spellings.get(w), state.bag) ? 1 << w : 0;
                }
                return bits;
            }
            case 7: return all.stream().mapToInt(Naive::usedWords).reduce(0, (a, b) -> a | b);
            case 8: return all.stream().mapToInt(List::size).min().orElse(NONE);
            case 9: return all.stream().mapToInt(List::size).max().orElse(NONE);
            case 10: return past.size();
            case 11: return seen.size();
            case 12: return text.length();
            case 13: return row.size();
            default: return BAD;
        }
    }

    private static int usedWords(List<Integer> phrase) {
        return phrase.stream().mapToInt(w -> 1 << w).reduce(0, (a, b) -> a | b);
    }

    private static String sorted(String letters) {
        char[] signs = letters.toCharArray();
        java.util.Arrays.sort(signs);
        return new String(signs);
    }

    int word(int word, int what) {
        if (noWord(word)) {
            return UNKNOWN;
        }
        String spelling = house.spellings.get(word);
        switch (what) {
            case 0: return spelling.length();
            case 1: return house.kinds.get(word);
            case 2: return state.ranks.get(word);
            case 3: return state.barred.contains(word) ? 1 : 0;
            case 4: {
                int rarest = spelling.charAt(0) - 'a';
                for (int letter = 7; letter >= 0; letter--) {
                    if (amount(spelling, letter) > 0 && letter(letter, 1) <= letter(rarest, 1)) {
                        rarest = letter(letter, 1) < letter(rarest, 1) ? letter : Math.min(letter, rarest);
                    }
                }
                return rarest;
            }
            case 5: return (int) house.spellings.stream().filter(s -> sorted(s).equals(sorted(spelling))).count();
            case 6: {
                String bag = state.bag;
                int times = 0;
                while (within(spelling, bag)) {
                    bag = without(bag, spelling);
                    times++;
                }
                return times;
            }
            case 7: return spelling.chars().map(c -> 1 << c - 'a').reduce(0, (a, b) -> a | b);
            default: return BAD;
        }
    }

    int letter(int letter, int what) {
        if (letter < 0 || letter > (what == 2 ? 3 : 7)) {
            return UNKNOWN;
        }
        switch (what) {
            case 0: return amount(state.bag, letter);
            case 1: return (int) house.spellings.stream().filter(s -> amount(s, letter) > 0).count();
            case 2: return state.follow.stream().filter(p -> p.charAt(0) == 'A' + letter)
                .mapToInt(p -> 1 << p.charAt(1) - 'A').sum();
            default: return BAD;
        }
    }

    // ---- doings

    private boolean noWord(int word) {
        return word < 0 || word >= words();
    }

    private void doing() {
        past.addLast(state.copy());
        if (past.size() > 14) {
            past.removeFirst();
        }
    }

    int put(int letter) {
        if (letter < 0 || letter > 7) {
            return UNKNOWN;
        }
        if (state.bag.length() == 12) {
            return FULL;
        }
        doing();
        state.bag += (char) ('a' + letter);
        return state.bag.length();
    }

    int take(int letter) {
        if (letter < 0 || letter > 7) {
            return UNKNOWN;
        }
        if (amount(state.bag, letter) == 0) {
            return LATE;
        }
        doing();
        state.bag = without(state.bag, String.valueOf((char) ('a' + letter)));
        return state.bag.length();
    }

    int bar(int word) {
        if (noWord(word)) {
            return UNKNOWN;
        }
        doing();
        return turnBarred(word);
    }

    private int turnBarred(int word) {
        if (state.barred.remove((Integer) word)) {
            return 0;
        }
        state.barred.add(word);
        return 1;
    }

    int rank(int word, int v) {
        if (noWord(word)) {
            return UNKNOWN;
        }
        if (v < 0 || v > 9) {
            return BAD;
        }
        doing();
        return state.ranks.set(word, v);
    }

    private static String turned(String kinds, String kind) {
        return kinds.contains(kind) ? kinds.replace(kind, "") : kinds + kind;
    }

    private int turnFollow(int kind, int other) {
        String pair = "" + (char) ('A' + kind) + (char) ('A' + other);
        if (state.follow.remove(pair)) {
            return 0;
        }
        state.follow.add(pair);
        return 1;
    }

    int allow(int what, int kind, int other) {
        if (kind < 0 || kind > 3 || other < 0 || other > 3) {
            return UNKNOWN;
        }
        if (what < 0 || what > 2) {
            return BAD;
        }
        doing();
        String name = String.valueOf((char) ('A' + kind));
        if (what == 0) {
            state.begin = turned(state.begin, name);
            return state.begin.contains(name) ? 1 : 0;
        }
        if (what == 1) {
            state.end = turned(state.end, name);
            return state.end.contains(name) ? 1 : 0;
        }
        return turnFollow(kind, other);
    }

    int undo() {
        if (past.isEmpty()) {
            return LATE;
        }
        state = past.removeLast();
        return past.size();
    }

    // ---- phrases

    /** All phrases in their order (or the first ones of too many), listed anew for another state. */
    private List<List<Integer>> phrases() {
        String state = house.spellings + " " + house.kinds + " " + this.state;
        if (!state.equals(listedState)) {
            listedState = state;
            listed = new ArrayList<>();
            list(this.state.bag, new ArrayList<>(), listed);
        }
        return listed;
    }

    boolean tooMany() {
        return phrases().size() > TOO_MANY_TO_LIST;
    }

    private boolean let(List<Integer> ahead, int word) {
        char kind = (char) ('A' + house.kinds.get(word));
        if (ahead.isEmpty()) {
            return state.begin.indexOf(kind) >= 0;
        }
        char last = (char) ('A' + house.kinds.get(ahead.get(ahead.size() - 1)));
        return state.follow.contains("" + last + kind);
    }

    private boolean mayEnd(List<Integer> words) {
        return state.end.indexOf((char) ('A' + house.kinds.get(words.get(words.size() - 1)))) >= 0;
    }

    private void list(String bag, List<Integer> ahead, List<List<Integer>> all) {
        if (all.size() > TOO_MANY_TO_LIST) {
            cutShort = true;
            return;
        }
        if (bag.isEmpty()) {
            if (!ahead.isEmpty() && mayEnd(ahead)) {
                all.add(new ArrayList<>(ahead));
            }
            return;
        }
        for (int w = 0; w < words(); w++) {
            if (!state.barred.contains(w) && let(ahead, w) && within(house.spellings.get(w), bag)) {
                ahead.add(w);
                list(without(bag, house.spellings.get(w)), ahead, all);
                ahead.remove(ahead.size() - 1);
            }
        }
    }

    private int worth(List<Integer> phrase) {
        return phrase.stream().mapToInt(w -> state.ranks.get(w)).sum();
    }

    private List<Integer> best() {
        List<Integer> best = null;
        for (List<Integer> phrase : phrases()) {
            if (best == null || worth(phrase) > worth(best)) {
                best = phrase;
            }
        }
        return best;
    }

    long many(int words) {
        if (words < 0 || words > 12) {
            return BAD;
        }
        return phrases().stream().filter(p -> words == 0 || p.size() == words).count();
    }

    long having(int word) {
        if (noWord(word)) {
            return UNKNOWN;
        }
        return phrases().stream().filter(p -> p.contains(word)).count();
    }

    int best(int k) {
        if (k < 0 || k > 13) {
            return BAD;
        }
        List<Integer> best = best();
        if (best == null) {
            return NONE;
        }
        if (k == 0) {
            return worth(best);
        }
        return k == 1 ? best.size() : k - 2 < best.size() ? best.get(k - 2) : NONE;
    }

    int phrase(long number, int k) {
        List<List<Integer>> all = phrases();
        if (number < 0 || number >= all.size()) {
            return UNKNOWN;
        }
        if (k < 0 || k > 13) {
            return BAD;
        }
        List<Integer> phrase = all.get((int) number);
        if (k == 0) {
            return phrase.size();
        }
        return k == 13 ? worth(phrase) : k <= phrase.size() ? phrase.get(k - 1) : NONE;
    }

    int tell(int word) {
        if (noWord(word)) {
            return UNKNOWN;
        }
        if (row.size() == 12) {
            return FULL;
        }
        row.add(word);
        return row.size();
    }

    int clear() {
        int size = row.size();
        row.clear();
        return size;
    }

    int why(int what) {
        if (what < 0 || what > 3) {
            return BAD;
        }
        return reason()[what];
    }

    private int[] reason() {
        if (row.isEmpty()) {
            return new int[] {6, 0, NONE, 0};
        }
        int[] left = new int[8];
        for (int letter = 0; letter < 8; letter++) {
            left[letter] = amount(state.bag, letter);
        }
        for (int i = 0; i < row.size(); i++) {
            int word = row.get(i);
            if (state.barred.contains(word)) {
                return new int[] {1, i, NONE, 0};
            }
            if (!let(row.subList(0, i), word)) {
                return new int[] {2, i, NONE, 0};
            }
            String spelling = house.spellings.get(word);
            for (char sign : spelling.toCharArray()) {
                int letter = sign - 'a';
                if (amount(spelling, letter) > left[letter]) {
                    return new int[] {3, i, letter, amount(spelling, letter) - left[letter]};
                }
            }
            for (char sign : spelling.toCharArray()) {
                left[sign - 'a']--;
            }
        }
        for (int letter = 0; letter < 8; letter++) {
            if (left[letter] > 0) {
                return new int[] {4, row.size(), letter, left[letter]};
            }
        }
        return mayEnd(row) ? new int[] {0, NONE, NONE, 0} : new int[] {5, row.size(), NONE, 0};
    }

    long number() {
        int at = phrases().indexOf(row);
        return at < 0 ? NONE : at;
    }

    int nearly(int what) {
        if (what < 0 || what > 1) {
            return BAD;
        }
        String bag = state.bag;
        int bits = 0;
        for (int letter = 0; letter < 8; letter++) {
            String sign = String.valueOf((char) ('a' + letter));
            if (what == 1 && !bag.contains(sign)) {
                continue;
            }
            state.bag = what == 0 ? bag + sign : without(bag, sign);
            bits |= phrases().isEmpty() ? 0 : 1 << letter;
            state.bag = bag;
        }
        return bits;
    }

    int judge(int n, long row) {
        if (n < 1 || n > 4 || row < 0 || String.valueOf(row).length() > 4 * n) {
            return BAD;
        }
        String figures = "0".repeat(4 * n - String.valueOf(row).length()) + row;
        State before = state;
        state = state.copy();
        int place = NONE;
        for (int i = 0; i < n && place == NONE; i++) {
            if (!judged(figures.substring(4 * i, 4 * i + 4))) {
                place = i;
            }
        }
        state = before;
        return place;
    }

    private boolean judged(String figures) {
        int subject = figures.charAt(1) - '0';
        int two = Integer.parseInt(figures.substring(2));
        if (figures.matches("1[0-7]00")) {
            if (state.bag.length() >= 12) {
                return false;
            }
            state.bag += (char) ('a' + subject);
            return true;
        }
        if (figures.matches("2[0-7]00")) {
            if (amount(state.bag, subject) == 0) {
                return false;
            }
            state.bag = without(state.bag, String.valueOf((char) ('a' + subject)));
            return true;
        }
        if (figures.matches("3.00") && subject < words()) {
            turnBarred(subject);
            return true;
        }
        if (figures.matches("40..")) {
            return phrases().size() == two;
        }
        if (figures.matches("5.0[01]") && subject < words()) {
            return phrases().stream().anyMatch(p -> p.contains(subject)) == (two == 1);
        }
        if (figures.matches("6[0-3][0-3]0")) {
            turnFollow(subject, two / 10);
            return true;
        }
        return figures.matches("70..") && best() != null && worth(best()) == two;
    }

    // ---- seen

    int see(int what, int v, int was) {
        if (what < 0 || what > 3 || v < 0 || v > 12 || was < 0 || was > 1) {
            return BAD;
        }
        if (seen.size() == 6) {
            return FULL;
        }
        seen.add(new int[] {what, v, was});
        return seen.size();
    }

    int unsee() {
        int size = seen.size();
        seen.clear();
        return size;
    }

    private boolean agrees(List<Integer> phrase) {
        for (int[] one : seen) {
            boolean so = one[0] == 0 ? phrase.contains(one[1])
                : one[0] == 1 ? phrase.size() == one[1]
                : one[0] == 2 ? phrase.get(0) == one[1]
                : phrase.get(phrase.size() - 1) == one[1];
            if (so != (one[2] == 1)) {
                return false;
            }
        }
        return true;
    }

    int left(int what) {
        if (what < 0 || what > 1) {
            return BAD;
        }
        List<List<Integer>> all = phrases();
        if (all.size() > 2000) {
            return LATE;
        }
        List<Integer> numbers = new ArrayList<>();
        for (int i = 0; i < all.size(); i++) {
            if (agrees(all.get(i))) {
                numbers.add(i);
            }
        }
        return what == 0 ? numbers.size() : numbers.isEmpty() ? NONE : numbers.get(0);
    }

    // ---- shares, chances

    private static BigInteger leastTerms(BigInteger above, BigInteger below, boolean upper) {
        BigInteger common = above.gcd(below);
        return (upper ? above : below).divide(common);
    }

    private int free() {
        return words() - state.barred.size();
    }

    /** A phrase comes with the last one of its words, and each of them is as likely the last one. */
    long share(int word, boolean upper) {
        if (noWord(word)) {
            return UNKNOWN;
        }
        if (state.barred.contains(word) || free() > 8) {
            return LATE;
        }
        long sum = 0;
        for (List<Integer> phrase : phrases()) {
            if (phrase.contains(word)) {
                sum += 840 / Integer.bitCount(usedWords(phrase));
            }
        }
        return leastTerms(BigInteger.valueOf(sum), BigInteger.valueOf(840), upper).longValueExact();
    }

    int hope(int x, boolean upper) {
        if (x < 0 || x > 10) {
            return BAD;
        }
        if (free() > 8) {
            return LATE;
        }
        List<Integer> uses = phrases().stream().map(Naive::usedWords).distinct().toList();
        BigInteger sum = BigInteger.ZERO;
        for (int open = 0; open < 1 << words(); open++) {
            int set = open;
            if (state.barred.stream().anyMatch(w -> (set >> w & 1) != 0) || uses.stream().noneMatch(u -> (u & ~set) == 0)) {
                continue;
            }
            sum = sum.add(BigInteger.valueOf(10 - x).pow(Integer.bitCount(set))
                .multiply(BigInteger.valueOf(x).pow(free() - Integer.bitCount(set))));
        }
        return leastTerms(sum, BigInteger.TEN.pow(free()), upper).intValueExact();
    }

    long seed(long v) {
        long old = seed;
        seed = v;
        return old;
    }

    int drawn(int m) {
        if (m < 1 || m > 20) {
            return BAD;
        }
        List<List<Integer>> all = phrases();
        int sum = 0;
        for (int i = 0; i < m; i++) {
            BigInteger next = BigInteger.valueOf(seed).multiply(new BigInteger("6364136223846793005"))
                .add(new BigInteger("1442695040888963407")).mod(BigInteger.ONE.shiftLeft(64));
            seed = next.longValue();
            if (!all.isEmpty()) {
                sum += worth(all.get(next.shiftRight(33).mod(BigInteger.valueOf(all.size())).intValueExact()));
            }
        }
        return sum;
    }

    // ---- slots

    int keep(int slot) {
        if (slot < 0 || slot > 1) {
            return UNKNOWN;
        }
        slots[slot] = state.copy();
        return words();
    }

    int again(int slot) {
        if (slot < 0 || slot > 1) {
            return UNKNOWN;
        }
        if (slots[slot] == null) {
            return LATE;
        }
        state = slots[slot].copy();
        past.clear();
        return words();
    }
}
