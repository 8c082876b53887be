import java.util.List;
import java.util.Random;

/**
 * Bags with very many phrases where kinds are let or not, words barred, letters put and taken: beside Memo. Runs beside
 * Naive leave such bags alone, since it lists all phrases.
 */
public final class LargeKindsTest {
    private static final int RUNS = 120, STATES = 3, UNKNOWN = -1, LATE = -3, NONE = -9;

    private final Check check = new Check();
    private final Random chance = new Random(20261119);
    private BagPhrases x;
    private Memo memo;
    private long seed;
    private int large = 0;

    public static void main(String[] args) {
        LargeKindsTest test = new LargeKindsTest();
        for (int run = 0; run < RUNS; run++) {
            test.run(run);
        }
        test.check.part("all runs");
        test.check.holds("many states have more phrases than are listed", test.large > RUNS / 2);
        test.check.end();
    }

    private void run(int run) {
        memo = chosen();
        seed = 0;
        String text = memo.text();
        check.part("run " + run + ", " + text);
        x = Check.house(text);
        // A state takes some 100 calls, and an object is used for 512 of them at most.
        for (int state = 0; state < STATES; state++) {
            check.part("run " + run + ", state " + state + ", " + text);
            large += memo.many(0) > 2000 ? 1 : 0;
            counts();
            best();
            numbers();
            letters();
            chances();
            change();
        }
    }

    private Memo chosen() {
        Memo memo = new Memo();
        int alphabet = 1 + chance.nextInt(8);
        int count = 2 + chance.nextInt(9);
        int longest = 1 + chance.nextInt(3);
        for (int word = 0; word < count; word++) {
            StringBuilder spelling = new StringBuilder();
            for (int size = 1 + chance.nextInt(longest); size > 0; size--) {
                spelling.append((char) ('a' + chance.nextInt(alphabet)));
            }
            memo.spellings.add(spelling.toString());
            memo.kinds.add(chance.nextInt(4));
            memo.ranks[word] = chance.nextInt(chance.nextBoolean() ? 10 : 2);
        }
        // The bag is made of the words, so that there are phrases.
        for (int tries = 0; tries < 30; tries++) {
            String spelling = memo.spellings.get(chance.nextInt(count));
            memo.bag += memo.bag.length() + spelling.length() <= 12 ? spelling : "";
        }
        for (int kind = 0; kind < 4; kind++) {
            memo.begins[kind] = chance.nextInt(4) > 0;
            memo.ends[kind] = chance.nextInt(4) > 0;
            for (int next = 0; next < 4; next++) {
                memo.follows[kind][next] = chance.nextInt(4) > 0;
            }
        }
        return memo;
    }

    private void counts() {
        int fewest = NONE;
        int most = NONE;
        for (int words = 0; words <= 12; words++) {
            long due = memo.many(words);
            check.same("many(" + words + ")", due, x.many(words));
            if (words > 0 && due > 0) {
                fewest = fewest == NONE ? words : fewest;
                most = words;
            }
        }
        int used = 0;
        for (int word = 0; word < memo.spellings.size(); word++) {
            long due = memo.many(0) - memo.within(1023 & ~(1 << word));
            check.same("having(" + word + ")", due, x.having(word));
            used |= due > 0 ? 1 << word : 0;
        }
        check.same("about(7)", used, x.about(7));
        check.same("about(8)", fewest, x.about(8));
        check.same("about(9)", most, x.about(9));
        check.same("left(0)", memo.many(0) > 2000 ? LATE : memo.many(0), x.left(0));
    }

    private void best() {
        List<Integer> best = memo.best();
        boolean any = memo.many(0) > 0;
        check.same("best(0)", memo.bestWorth(), x.best(0));
        check.same("best(1)", any ? best.size() : NONE, x.best(1));
        for (int k = 2; k <= 13; k++) {
            check.same("best(" + k + ")", k - 2 < best.size() ? best.get(k - 2) : NONE, x.best(k));
        }
        // Two figures tell a worth of 99 at most.
        boolean told = any && memo.bestWorth() < 100;
        check.same("judge(1, 70..)", told ? NONE : 0, x.judge(1, 7000 + Math.max(0, memo.bestWorth()) % 100));
    }

    private void numbers() {
        long all = memo.many(0);
        check.same("phrase(" + all + ", 0)", UNKNOWN, x.phrase(all, 0));
        for (int i = 0; i < 3 && all > 0; i++) {
            long number = i == 0 ? all - 1 : Math.floorMod(chance.nextLong(), all);
            List<Integer> phrase = memo.phrase(number);
            check.same("phrase(" + number + ", 0)", phrase.size(), x.phrase(number, 0));
            check.same("phrase(" + number + ", 13)", memo.worth(phrase), x.phrase(number, 13));
            int k = 1 + chance.nextInt(12);
            check.same("phrase(" + number + ", " + k + ")", k <= phrase.size() ? phrase.get(k - 1) : NONE, x.phrase(number, k));
            if (i == 1) {
                Check.tell(x, phrase.stream().mapToInt(word -> word).toArray());
                check.same("why(0) of " + phrase, 0, x.why(0));
                check.same("number() of " + phrase, number, x.number());
            }
        }
    }

    private void letters() {
        int wanting = 0;
        int tooMany = 0;
        for (int letter = 0; letter < 8; letter++) {
            String sign = String.valueOf((char) ('a' + letter));
            wanting |= memo.withBag(memo.bag + sign) > 0 ? 1 << letter : 0;
            if (memo.bag.contains(sign)) {
                tooMany |= memo.withBag(memo.bag.replaceFirst(sign, "")) > 0 ? 1 << letter : 0;
            }
        }
        check.same("nearly(0)", wanting, x.nearly(0));
        check.same("nearly(1)", tooMany, x.nearly(1));
    }

    private void chances() {
        int word = chance.nextInt(memo.spellings.size());
        int tenths = chance.nextInt(11);
        boolean upper = chance.nextBoolean();
        boolean few = memo.free() <= 8;
        check.same("share(" + word + ", " + upper + ")", few && !memo.barred[word] ? memo.share(word, upper) : LATE, x.share(word, upper));
        check.same("hope(" + tenths + ", " + upper + ")", few ? memo.hope(tenths, upper) : LATE, x.hope(tenths, upper));
        int due = 0;
        for (int i = 0; i < 4; i++) {
            seed = seed * 6364136223846793005L + 1442695040888963407L;
            due += memo.many(0) > 0 ? memo.worth(memo.phrase((seed >>> 33) % memo.many(0))) : 0;
        }
        check.same("drawn(4)", due, x.drawn(4));
    }

    private void change() {
        int word = chance.nextInt(memo.spellings.size());
        int kind = chance.nextInt(4);
        int other = chance.nextInt(4);
        char letter = memo.bag.charAt(chance.nextInt(memo.bag.length()));
        switch (chance.nextInt(5)) {
            case 0:
                memo.barred[word] = !memo.barred[word];
                x.bar(word);
                break;
            case 1:
                memo.follows[kind][other] = !memo.follows[kind][other];
                x.allow(2, kind, other);
                break;
            case 2:
                memo.ends[kind] = !memo.ends[kind];
                x.allow(1, kind, other);
                break;
            case 3:
                memo.ranks[word] = 9 - memo.ranks[word];
                x.rank(word, memo.ranks[word]);
                break;
            default:
                // A letter for another one, so that the bag stays as large as it is.
                memo.bag = memo.bag.replaceFirst(String.valueOf(letter), "") + memo.spellings.get(word).charAt(0);
                x.take(letter - 'a');
                x.put(memo.spellings.get(word).charAt(0) - 'a');
                break;
        }
        memo.forget();
    }
}
