import java.util.Random;

/** Runs of chosen-by-chance calls on BagPhrases and on Naive side by side: each answer is compared. */
public final class AgainstNaiveTest {
    private static final int RUNS = 400, CALLS = 300;

    private final Check check = new Check();
    private final Random chance = new Random(20261118);
    private BagPhrases one;
    private Naive other;
    /** How large the letters' alphabet of this run is: few letters make many phrases. */
    private int alphabet;

    public static void main(String[] args) {
        AgainstNaiveTest test = new AgainstNaiveTest();
        for (int run = 0; run < RUNS; run++) {
            test.run(run);
        }
        test.check.end();
    }

    private void run(int run) {
        check.part("run " + run);
        one = new BagPhrases();
        other = new Naive();
        alphabet = 1 + chance.nextInt(8);
        int calls = house();
        while (calls < CALLS && !other.tooMany()) {
            calls += call();
        }
    }

    private int house() {
        String text = chance.nextInt(12) == 0 ? brokenText() : text();
        check.same("wipe()", other.wipe(), one.wipe());
        for (char sign : text.toCharArray()) {
            check.same("write(" + (int) sign + ")", other.write(sign), one.write(sign));
        }
        check.same("fault() of " + text, other.fault(), one.fault());
        check.same("house() of " + text, other.house(), one.house());
        return text.length() + 3;
    }

    private String text() {
        StringBuilder text = new StringBuilder();
        int words = chance.nextInt(11);
        int longest = 1 + chance.nextInt(chance.nextInt(3) == 0 ? 6 : 3);
        for (int i = 0; i < words; i++) {
            text.append('w');
            for (int size = 1 + chance.nextInt(longest); size > 0; size--) {
                text.append((char) ('a' + chance.nextInt(alphabet)));
            }
            text.append((char) ('A' + chance.nextInt(4))).append(chance.nextInt(10));
        }
        for (int size = chance.nextInt(chance.nextInt(3) == 0 ? 13 : 7); size > 0; size--) {
            text.append('+').append((char) ('a' + chance.nextInt(alphabet)));
        }
        int generous = 1 + chance.nextInt(4);
        for (char kind = 'A'; kind <= 'D'; kind++) {
            text.append(chance.nextInt(4) < generous ? "^" + kind : "");
            text.append(chance.nextInt(4) < generous ? "." + kind : "");
            for (char next = 'A'; next <= 'D'; next++) {
                text.append(chance.nextInt(5) < generous ? ":" + kind + next : "");
            }
        }
        return text.toString();
    }

    private String brokenText() {
        StringBuilder text = new StringBuilder(text());
        String signs = "wwabchABCD09+^.: iE@" + (char) 200;
        int turns = 1 + chance.nextInt(3);
        for (int i = 0; i < turns; i++) {
            char sign = signs.charAt(chance.nextInt(signs.length()));
            if (text.length() > 0 && chance.nextBoolean()) {
                text.setCharAt(chance.nextInt(text.length()), sign);
            } else if (text.length() < 180) {
                text.insert(chance.nextInt(text.length() + 1), sign);
            }
        }
        if (chance.nextInt(3) == 0) {
            text.setLength(chance.nextInt(text.length() + 1));
        }
        return text.toString();
    }

    /** Mostly 0 .. most (inclusive), now and then beyond it. */
    private int upTo(int most) {
        return chance.nextInt(16) == 0 ? (chance.nextBoolean() ? -1 - chance.nextInt(3) : most + 1 + chance.nextInt(3))
            : chance.nextInt(most + 1);
    }

    private int aWord() {
        return upTo(Math.max(0, other.words() - 1));
    }

    private int call() {
        switch (chance.nextInt(14)) {
            case 0: return chance.nextInt(30) == 0 ? house() : asking();
            case 1: case 2: case 3: return doing();
            case 4: case 5: return asking();
            case 6: case 7: return counting();
            case 8: return rows();
            case 9: return judging();
            case 10: return seeing();
            case 11: case 12: return chances();
            default: return slots();
        }
    }

    private int asking() {
        int a = upTo(13);
        int b = upTo(7);
        int w = aWord();
        int c = upTo(2);
        check.same("about(" + a + ")", other.about(a), one.about(a));
        check.same("word(" + w + ", " + b + ")", other.word(w, b), one.word(w, b));
        check.same("letter(" + b + ", " + c + ")", other.letter(b, c), one.letter(b, c));
        return 3;
    }

    private int doing() {
        int letter = chance.nextInt(6) == 0 ? upTo(7) : chance.nextInt(alphabet);
        int w = aWord();
        int v = upTo(9);
        int what = upTo(2);
        int kind = upTo(3);
        int next = upTo(3);
        switch (chance.nextInt(7)) {
            case 0: check.same("put(" + letter + ")", other.put(letter), one.put(letter)); break;
            case 1: check.same("take(" + letter + ")", other.take(letter), one.take(letter)); break;
            case 2: check.same("bar(" + w + ")", other.bar(w), one.bar(w)); break;
            case 3: check.same("rank(" + w + ", " + v + ")", other.rank(w, v), one.rank(w, v)); break;
            case 4: case 5: check.same("allow(" + what + ", " + kind + ", " + next + ")",
                other.allow(what, kind, next), one.allow(what, kind, next)); break;
            default: check.same("undo()", other.undo(), one.undo()); break;
        }
        return 1;
    }

    private int counting() {
        int words = upTo(12);
        int w = aWord();
        int k = upTo(13);
        int what = upTo(1);
        check.same("many(0)", other.many(0), one.many(0));
        check.same("many(" + words + ")", other.many(words), one.many(words));
        check.same("having(" + w + ")", other.having(w), one.having(w));
        check.same("best(" + k + ")", other.best(k), one.best(k));
        check.same("best(0)", other.best(0), one.best(0));
        long number = upTo((int) Math.max(0, other.many(0) - 1));
        check.same("phrase(" + number + ", " + k + ")", other.phrase(number, k), one.phrase(number, k));
        check.same("nearly(" + what + ")", other.nearly(what), one.nearly(what));
        return 7;
    }

    private int rows() {
        check.same("clear()", other.clear(), one.clear());
        int calls = 1;
        long count = other.many(0);
        if (count > 0 && chance.nextBoolean()) {
            calls += tellPhrase(chance.nextInt((int) count));
        }
        for (int more = chance.nextInt(chance.nextInt(8) == 0 ? 14 : 3); more > 0; more--) {
            int w = aWord();
            check.same("tell(" + w + ")", other.tell(w), one.tell(w));
            calls++;
        }
        for (int what = -1; what <= 4; what++) {
            check.same("why(" + what + ")", other.why(what), one.why(what));
        }
        check.same("number()", other.number(), one.number());
        return calls + 7;
    }

    private int tellPhrase(long number) {
        int size = other.phrase(number, 0);
        for (int k = 1; k <= size; k++) {
            int w = other.phrase(number, k);
            check.same("tell(" + w + ")", other.tell(w), one.tell(w));
        }
        return size;
    }

    private int judging() {
        int n = upTo(4);
        StringBuilder figures = new StringBuilder("0");
        int told = Math.max(0, chance.nextInt(20) == 0 ? n + 1 : n);
        for (int i = 0; i < told && i < 4; i++) {
            figures.append(doingFigures());
        }
        long row = Long.parseLong(figures.toString());
        row = chance.nextInt(30) == 0 ? -row : row;
        other.cutShort = false;
        int due = other.judge(n, row);
        int got = one.judge(n, row);
        // letters put in may have made more phrases than are listed
        if (!other.cutShort) {
            check.same("judge(" + n + ", " + row + ")", due, got);
        }
        return 1;
    }

    private String doingFigures() {
        int w = chance.nextInt(10);
        switch (chance.nextInt(8)) {
            case 0: return "1" + chance.nextInt(Math.min(9, alphabet + 1)) + "00";
            case 1: return "2" + chance.nextInt(Math.min(9, alphabet + 1)) + "00";
            case 2: return "3" + w + "00";
            case 3: return String.format("40%02d", other.many(0) % 100);
            case 4: return "5" + w + "0" + chance.nextInt(2);
            case 5: return "6" + chance.nextInt(4) + chance.nextInt(5) + "0";
            case 6: return String.format("70%02d", Math.floorMod(other.best(0), 100));
            default: return String.format("%04d", chance.nextInt(10000));
        }
    }

    private int seeing() {
        int what = upTo(3);
        int v = chance.nextInt(3) == 0 ? upTo(12) : Math.max(0, aWord());
        int was = upTo(1);
        if (chance.nextInt(4) == 0) {
            check.same("unsee()", other.unsee(), one.unsee());
        } else {
            check.same("see(" + what + ", " + v + ", " + was + ")", other.see(what, v, was), one.see(what, v, was));
        }
        for (int i = -1; i <= 2; i++) {
            check.same("left(" + i + ")", other.left(i), one.left(i));
        }
        return 5;
    }

    private int chances() {
        int w = aWord();
        int x = upTo(10);
        int m = upTo(20);
        check.same("share(" + w + ", true)", other.share(w, true), one.share(w, true));
        check.same("share(" + w + ", false)", other.share(w, false), one.share(w, false));
        check.same("hope(" + x + ", true)", other.hope(x, true), one.hope(x, true));
        check.same("hope(" + x + ", false)", other.hope(x, false), one.hope(x, false));
        if (chance.nextInt(4) == 0) {
            long v = chance.nextLong();
            check.same("seed(" + v + ")", other.seed(v), one.seed(v));
        }
        check.same("drawn(" + m + ")", other.drawn(m), one.drawn(m));
        return 6;
    }

    private int slots() {
        int slot = upTo(1);
        if (chance.nextBoolean()) {
            check.same("keep(" + slot + ")", other.keep(slot), one.keep(slot));
        } else {
            check.same("again(" + slot + ")", other.again(slot), one.again(slot));
        }
        return 1;
    }
}
