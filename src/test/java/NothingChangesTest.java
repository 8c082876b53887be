import java.util.function.Supplier;
import java.util.function.ToLongFunction;

/**
 * REFUSALS: each refusal of each promise, by the right number, and "What is refused changes nothing.": an object
 * that refused is told from one that was never asked by nothing. So are calls that only ask.
 */
public final class NothingChangesTest {
    private static final Check CHECK = new Check();
    private static final int UNKNOWN = -1, BAD = -2, LATE = -3, FULL = -4;

    private Supplier<BagPhrases> maker;
    private String before;

    public static void main(String[] args) {
        NothingChangesTest test = new NothingChangesTest();
        test.in(BagPhrases::new);
        test.whateverTheState();
        test.ofNoWords();
        test.in(NothingChangesTest::ordinary);
        test.whateverTheState();
        test.ofSomeWords();
        test.onlyAsked();
        test.in(NothingChangesTest::full);
        test.whateverTheState();
        test.whereRowsAreFull();
        test.onlyAsked();
        test.in(NothingChangesTest::many);
        test.whateverTheState();
        test.whereThereAreMany();
        CHECK.covered(2, 2);
        CHECK.covered(5, 19);
        CHECK.covered(21, 21);
        CHECK.covered(23, 25);
        CHECK.covered(27, 29);
        CHECK.covered(31, 33);
        CHECK.end();
    }

    private void in(Supplier<BagPhrases> state) {
        maker = state;
        before = View.of(state);
    }

    /** Four words of five are not barred; some phrases; each row holds something; slot 1 is kept. */
    private static BagPhrases ordinary() {
        BagPhrases x = Check.house("waA2wbA3wabB9wccC0waaA1+a+b+a^A^B.A.B:AA:AB:BA");
        x.keep(1);
        x.put(0);
        x.rank(1, 8);
        x.bar(4);
        x.allow(1, 3, 3);
        Check.tell(x, 0, 2, 4);
        x.see(0, 0, 1);
        x.see(3, 1, 0);
        x.seed(11);
        x.write('?');
        return x;
    }

    /** Ten words, twelve letters, fourteen doings, twelve words in a row, six seen, 180 signs, both slots kept. */
    private static BagPhrases full() {
        BagPhrases x = Check.house("waA1".repeat(5) + "wbB2".repeat(5) + "+a+b".repeat(6) + "^A.B:AB:BA");
        x.keep(0);
        x.rank(0, 7);
        for (int word = 2; word < 5; word++) {
            x.bar(word);
            x.bar(word + 5);
        }
        x.keep(1);
        x.allow(0, 3, 0);
        x.allow(2, 3, 0);
        for (int i = 0; i < 5; i++) {
            x.rank(i, 9 - i);
        }
        for (int i = 0; i < 12; i++) {
            x.tell(i % 2 * 5);
        }
        for (int i = 0; i < 6; i++) {
            x.see(i / 2, 2 + i, 0);
        }
        for (int size = x.about(12); size < 180; size++) {
            x.write('w');
        }
        x.seed(-3);
        return x;
    }

    /** Nine words that are not barred, more than 2000 phrases. */
    private static BagPhrases many() {
        BagPhrases x = Check.house(Houses.tenTwins(4));
        x.bar(3);
        x.keep(0);
        x.tell(3);
        x.see(1, 4, 1);
        return x;
    }

    private void refused(int promise, String call, int due, ToLongFunction<BagPhrases> asked) {
        CHECK.sentence(promise, "What is refused changes nothing, " + call);
        BagPhrases x = maker.get();
        CHECK.same(call, due, asked.applyAsLong(x));
        CHECK.same(call + ", once more", due, asked.applyAsLong(x));
        CHECK.holds("it changes nothing", before.equals(View.of(() -> x)));
    }

    private void asked(int promise, String call, ToLongFunction<BagPhrases> asked) {
        CHECK.sentence(promise, "what is only asked changes nothing, " + call);
        BagPhrases x = maker.get();
        long answer = asked.applyAsLong(x);
        CHECK.same(call + ", once more", answer, asked.applyAsLong(x));
        CHECK.holds("it changes nothing", before.equals(View.of(() -> x)));
    }

    private void whateverTheState() {
        int[] ends = {Integer.MIN_VALUE, -1, Integer.MAX_VALUE};
        for (int end : ends) {
            outside(end);
        }
        refused(2, "write(256)", BAD, x -> x.write(256));
        refused(6, "about(14)", BAD, x -> x.about(14));
        refused(7, "word(10, 0)", UNKNOWN, x -> x.word(10, 0));
        refused(8, "letter(8, 0)", UNKNOWN, x -> x.letter(8, 0));
        refused(8, "letter(4, 2)", UNKNOWN, x -> x.letter(4, 2));
        refused(8, "letter(8, 3)", UNKNOWN, x -> x.letter(8, 3));
        refused(8, "letter(7, 3)", BAD, x -> x.letter(7, 3));
        refused(9, "put(8)", UNKNOWN, x -> x.put(8));
        refused(10, "take(8)", UNKNOWN, x -> x.take(8));
        refused(10, "take(7), of which there is none", LATE, x -> x.take(7));
        refused(11, "bar(10)", UNKNOWN, x -> x.bar(10));
        refused(12, "rank(10, 10)", UNKNOWN, x -> x.rank(10, 10));
        refused(13, "allow(0, 4, 0)", UNKNOWN, x -> x.allow(0, 4, 0));
        refused(13, "allow(1, 0, 4)", UNKNOWN, x -> x.allow(1, 0, 4));
        refused(13, "allow(2, 0, 4)", UNKNOWN, x -> x.allow(2, 0, 4));
        refused(13, "allow(3, 4, 0)", UNKNOWN, x -> x.allow(3, 4, 0));
        refused(13, "allow(3, 0, 0)", BAD, x -> x.allow(3, 0, 0));
        refused(15, "many(13)", BAD, x -> x.many(13));
        refused(16, "having(10)", UNKNOWN, x -> x.having(10));
        refused(17, "best(14)", BAD, x -> x.best(14));
        refused(18, "phrase(many, 0)", UNKNOWN, x -> x.phrase(x.many(0), 0));
        refused(18, "phrase(many, 14)", UNKNOWN, x -> x.phrase(x.many(0), 14));
        refused(19, "tell(10)", UNKNOWN, x -> x.tell(10));
        refused(21, "why(4)", BAD, x -> x.why(4));
        refused(23, "nearly(2)", BAD, x -> x.nearly(2));
        refused(24, "judge(0, 1000)", BAD, x -> x.judge(0, 1000));
        refused(24, "judge(5, 1000)", BAD, x -> x.judge(5, 1000));
        refused(24, "judge(1, 10000)", BAD, x -> x.judge(1, 10000));
        refused(24, "judge(4, 10^16)", BAD, x -> x.judge(4, 10000000000000000L));
        refused(24, "judge(1, -1000)", BAD, x -> x.judge(1, -1000));
        refused(25, "see(4, 0, 0)", BAD, x -> x.see(4, 0, 0));
        refused(25, "see(0, 13, 0)", BAD, x -> x.see(0, 13, 0));
        refused(25, "see(0, 0, 2)", BAD, x -> x.see(0, 0, 2));
        refused(27, "left(2)", BAD, x -> x.left(2));
        refused(28, "share(10, true)", UNKNOWN, x -> x.share(10, true));
        refused(29, "hope(11, true)", BAD, x -> x.hope(11, true));
        refused(31, "drawn(0)", BAD, x -> x.drawn(0));
        refused(31, "drawn(21)", BAD, x -> x.drawn(21));
        refused(32, "keep(2)", UNKNOWN, x -> x.keep(2));
        refused(33, "again(2)", UNKNOWN, x -> x.again(2));
    }

    private void outside(int v) {
        refused(2, "write(" + v + ")", BAD, x -> x.write(v));
        refused(6, "about(" + v + ")", BAD, x -> x.about(v));
        refused(7, "word(" + v + ", " + v + ")", UNKNOWN, x -> x.word(v, v));
        refused(8, "letter(" + v + ", " + v + ")", UNKNOWN, x -> x.letter(v, v));
        refused(8, "letter(" + v + ", 2)", UNKNOWN, x -> x.letter(v, 2));
        refused(8, "letter(0, " + v + ")", BAD, x -> x.letter(0, v));
        refused(9, "put(" + v + ")", UNKNOWN, x -> x.put(v));
        refused(10, "take(" + v + ")", UNKNOWN, x -> x.take(v));
        refused(11, "bar(" + v + ")", UNKNOWN, x -> x.bar(v));
        refused(12, "rank(" + v + ", " + v + ")", UNKNOWN, x -> x.rank(v, v));
        refused(13, "allow(" + v + ", " + v + ", 0)", UNKNOWN, x -> x.allow(v, v, 0));
        refused(13, "allow(" + v + ", 0, " + v + ")", UNKNOWN, x -> x.allow(v, 0, v));
        refused(13, "allow(" + v + ", 0, 0)", BAD, x -> x.allow(v, 0, 0));
        refused(15, "many(" + v + ")", BAD, x -> x.many(v));
        refused(16, "having(" + v + ")", UNKNOWN, x -> x.having(v));
        refused(17, "best(" + v + ")", BAD, x -> x.best(v));
        refused(18, "phrase(" + v + ", " + v + ")", UNKNOWN, x -> x.phrase(v, v));
        refused(19, "tell(" + v + ")", UNKNOWN, x -> x.tell(v));
        refused(21, "why(" + v + ")", BAD, x -> x.why(v));
        refused(23, "nearly(" + v + ")", BAD, x -> x.nearly(v));
        refused(24, "judge(" + v + ", " + v + ")", BAD, x -> x.judge(v, v));
        refused(25, "see(" + v + ", 0, 0)", BAD, x -> x.see(v, 0, 0));
        refused(25, "see(0, " + v + ", 0)", BAD, x -> x.see(0, v, 0));
        refused(25, "see(0, 0, " + v + ")", BAD, x -> x.see(0, 0, v));
        refused(27, "left(" + v + ")", BAD, x -> x.left(v));
        refused(28, "share(" + v + ", false)", UNKNOWN, x -> x.share(v, false));
        refused(29, "hope(" + v + ", false)", BAD, x -> x.hope(v, false));
        refused(31, "drawn(" + v + ")", BAD, x -> x.drawn(v));
        refused(32, "keep(" + v + ")", UNKNOWN, x -> x.keep(v));
        refused(33, "again(" + v + ")", UNKNOWN, x -> x.again(v));
    }

    private void ofNoWords() {
        refused(7, "word(0, 0)", UNKNOWN, x -> x.word(0, 0));
        refused(7, "word(0, 8)", UNKNOWN, x -> x.word(0, 8));
        for (int letter = 0; letter < 8; letter++) {
            int one = letter;
            refused(10, "take(" + one + ")", LATE, x -> x.take(one));
        }
        refused(11, "bar(0)", UNKNOWN, x -> x.bar(0));
        refused(12, "rank(0, 0)", UNKNOWN, x -> x.rank(0, 0));
        refused(14, "undo()", LATE, BagPhrases::undo);
        refused(16, "having(0)", UNKNOWN, x -> x.having(0));
        refused(18, "phrase(0, 0)", UNKNOWN, x -> x.phrase(0, 0));
        refused(19, "tell(0)", UNKNOWN, x -> x.tell(0));
        refused(28, "share(0, true)", UNKNOWN, x -> x.share(0, true));
        refused(33, "again(0)", LATE, x -> x.again(0));
        refused(33, "again(1)", LATE, x -> x.again(1));
    }

    private void ofSomeWords() {
        refused(5, "house() of a fault", LATE, BagPhrases::house);
        refused(7, "word(5, 0)", UNKNOWN, x -> x.word(5, 0));
        refused(7, "word(4, 8)", BAD, x -> x.word(4, 8));
        refused(7, "word(0, -1)", BAD, x -> x.word(0, -1));
        refused(10, "take(2)", LATE, x -> x.take(2));
        refused(11, "bar(5)", UNKNOWN, x -> x.bar(5));
        refused(12, "rank(5, 0)", UNKNOWN, x -> x.rank(5, 0));
        refused(12, "rank(0, 10)", BAD, x -> x.rank(0, 10));
        refused(12, "rank(4, -1)", BAD, x -> x.rank(4, -1));
        refused(16, "having(5)", UNKNOWN, x -> x.having(5));
        refused(18, "phrase(0, 14)", BAD, x -> x.phrase(0, 14));
        refused(18, "phrase(0, -1)", BAD, x -> x.phrase(0, -1));
        refused(19, "tell(5)", UNKNOWN, x -> x.tell(5));
        refused(28, "share(5, true)", UNKNOWN, x -> x.share(5, true));
        refused(28, "share(4, true), barred", LATE, x -> x.share(4, true));
        refused(28, "share(4, false), barred", LATE, x -> x.share(4, false));
        refused(33, "again(0)", LATE, x -> x.again(0));
    }

    private void whereRowsAreFull() {
        CHECK.sentence(6, "the rows that are full here");
        BagPhrases full = maker.get();
        int[] due = {10, 12, 2, 924, 9, 2, 1023, 99, 12, 12, 14, 6, 180, 12};
        for (int what = 0; what < due.length; what++) {
            CHECK.same("about(" + what + ")", due[what], full.about(what));
        }
        refused(2, "write(0), the 181st", FULL, x -> x.write(0));
        refused(2, "write(255), the 181st", FULL, x -> x.write(255));
        refused(5, "house() of a fault", LATE, BagPhrases::house);
        refused(9, "put(0), the 13th", FULL, x -> x.put(0));
        refused(9, "put(7), the 13th", FULL, x -> x.put(7));
        refused(10, "take(2)", LATE, x -> x.take(2));
        refused(12, "rank(9, 10)", BAD, x -> x.rank(9, 10));
        refused(19, "tell(0), the 13th", FULL, x -> x.tell(0));
        refused(19, "tell(9), the 13th", FULL, x -> x.tell(9));
        refused(25, "see(0, 0, 1), the 7th", FULL, x -> x.see(0, 0, 1));
        refused(25, "see(3, 12, 0), the 7th", FULL, x -> x.see(3, 12, 0));
        refused(28, "share(2, true), barred", LATE, x -> x.share(2, true));
    }

    private void whereThereAreMany() {
        refused(18, "phrase(6561, 0)", UNKNOWN, x -> x.phrase(6561, 0));
        refused(18, "phrase(6560, 14)", BAD, x -> x.phrase(6560, 14));
        refused(27, "left(0)", LATE, x -> x.left(0));
        refused(27, "left(1)", LATE, x -> x.left(1));
        refused(28, "share(0, true), nine", LATE, x -> x.share(0, true));
        refused(28, "share(3, true), barred, and nine", LATE, x -> x.share(3, true));
        refused(29, "hope(0, true), nine", LATE, x -> x.hope(0, true));
        refused(29, "hope(10, false), nine", LATE, x -> x.hope(10, false));
        refused(33, "again(1)", LATE, x -> x.again(1));
    }

    private void onlyAsked() {
        asked(4, "fault()", BagPhrases::fault);
        for (int what = 0; what <= 13; what++) {
            int one = what;
            asked(6, "about(" + one + ")", x -> x.about(one));
            asked(17, "best(" + one + ")", x -> x.best(one));
            asked(18, "phrase(0, " + one + ")", x -> x.phrase(0, one));
        }
        for (int what = 0; what <= 7; what++) {
            int one = what;
            asked(7, "word(1, " + one + ")", x -> x.word(1, one));
            asked(8, "letter(1, " + one % 3 + ")", x -> x.letter(1, one % 3));
        }
        for (int words = 0; words <= 12; words++) {
            int one = words;
            asked(15, "many(" + one + ")", x -> x.many(one));
        }
        asked(16, "having(1)", x -> x.having(1));
        for (int what = 0; what <= 3; what++) {
            int one = what;
            asked(21, "why(" + one + ")", x -> x.why(one));
            asked(23, "nearly(" + one % 2 + ")", x -> x.nearly(one % 2));
            asked(27, "left(" + one % 2 + ")", x -> x.left(one % 2));
        }
        asked(22, "number()", BagPhrases::number);
        asked(24, "judge: doings that can be", x -> x.judge(4, 2000310060101100L));
        asked(24, "judge: doings of which one can not be", x -> x.judge(4, 2000310060102700L));
        asked(28, "share(0, true)", x -> x.share(0, true));
        asked(28, "share(1, false)", x -> x.share(1, false));
        asked(29, "hope(3, true)", x -> x.hope(3, true));
        asked(29, "hope(10, false)", x -> x.hope(10, false));
    }
}
