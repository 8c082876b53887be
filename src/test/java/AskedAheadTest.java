import java.util.function.Consumer;
import java.util.function.ToLongFunction;

/**
 * What was asked ahead of a call changes nothing of its answer, whatever the object holds ready for the next one: each
 * call behind each two others, and each call behind another one with a change between them.
 */
public final class AskedAheadTest {
    private static final Check CHECK = new Check();

    /** There are words of two kinds, twins, one that is in no phrase, and phrases with one letter more or less, too. */
    private static final String[] HOUSES = {
        "waA1waB2wbA3wabB2wcA9wbbC4+a+a+b+b+a^A^B.A.B:AA:AB:BA:BB",
        "waA1wbA3wcB2wdC5wfeD1weD4wfA2wghB9+a+b+c+d+e+f+g+h" + Houses.ALL_LET,
    };

    private static final String[] NAMES = {"many(0)", "many(4)", "having(1)", "best(0)", "best(3)", "phrase(1, 2)", "about(7)",
        "about(8)", "about(9)", "number()", "nearly(0)", "nearly(1)", "judge(2, 10004000)", "judge(1, 5001)", "left(0)",
        "share(1, true)", "hope(3, true)", "drawn(3)", "why(0)", "fault()", "about(6)"};

    private static final ToLongFunction<BagPhrases>[] ASKED = asked();

    private static final String[] CHANGES = {"put(1)", "take(0)", "bar(1)", "rank(0, 9)", "allow(0, 1, 0)", "allow(1, 0, 0)",
        "allow(2, 0, 0)", "undo()", "again(0)", "house()"};

    private static final Consumer<BagPhrases>[] CHANGED = changed();

    @SuppressWarnings("unchecked")
    private static ToLongFunction<BagPhrases>[] asked() {
        return new ToLongFunction[] {
            ask(x -> x.many(0)), ask(x -> x.many(4)), ask(x -> x.having(1)), ask(x -> x.best(0)), ask(x -> x.best(3)),
            ask(x -> x.phrase(1, 2)), ask(x -> x.about(7)), ask(x -> x.about(8)), ask(x -> x.about(9)), ask(BagPhrases::number),
            ask(x -> x.nearly(0)), ask(x -> x.nearly(1)), ask(x -> x.judge(2, 10004000)), ask(x -> x.judge(1, 5001)),
            ask(x -> x.left(0)), ask(x -> x.share(1, true)), ask(x -> x.hope(3, true)), ask(AskedAheadTest::drawn),
            ask(x -> x.why(0)), ask(BagPhrases::fault), ask(x -> x.about(6)),
        };
    }

    @SuppressWarnings("unchecked")
    private static Consumer<BagPhrases>[] changed() {
        return new Consumer[] {
            change(x -> x.put(1)), change(x -> x.take(0)), change(x -> x.bar(1)), change(x -> x.rank(0, 9)),
            change(x -> x.allow(0, 1, 0)), change(x -> x.allow(1, 0, 0)), change(x -> x.allow(2, 0, 0)),
            change(x -> x.undo()), change(x -> x.again(0)), change(x -> x.house()),
        };
    }

    private static ToLongFunction<BagPhrases> ask(ToLongFunction<BagPhrases> call) {
        return call;
    }

    private static Consumer<BagPhrases> change(Consumer<BagPhrases> call) {
        return call;
    }

    /** The seed goes on by itself: it is set back, so that this call, too, only asks. */
    private static long drawn(BagPhrases x) {
        long seed = x.seed(7);
        long drawn = x.drawn(3);
        x.seed(seed);
        return drawn;
    }

    public static void main(String[] args) {
        for (String house : HOUSES) {
            behindTwo(house);
            behindChange(house);
        }
        CHECK.end();
    }

    /** A word is barred, and was not when they were kept, so that undoing, going on and reading the text all change something. */
    private static BagPhrases made(String house) {
        BagPhrases x = Check.house(house);
        x.keep(0);
        x.allow(1, 1, 0);
        x.bar(4);
        Check.tell(x, 0, 1, 0, 2, 2);
        x.see(0, 0, 1);
        return x;
    }

    private static void behindTwo(String house) {
        CHECK.part("asked ahead, " + house);
        for (int third = 0; third < ASKED.length; third++) {
            long due = ASKED[third].applyAsLong(made(house));
            for (int first = 0; first < ASKED.length; first++) {
                for (int second = 0; second < ASKED.length; second++) {
                    BagPhrases x = made(house);
                    ASKED[first].applyAsLong(x);
                    ASKED[second].applyAsLong(x);
                    CHECK.same(NAMES[first] + ", " + NAMES[second] + ", " + NAMES[third], due, ASKED[third].applyAsLong(x));
                }
            }
        }
    }

    private static void behindChange(String house) {
        CHECK.part("asked ahead of a change, " + house);
        for (int change = 0; change < CHANGED.length; change++) {
            for (int second = 0; second < ASKED.length; second++) {
                BagPhrases fresh = made(house);
                CHANGED[change].accept(fresh);
                long due = ASKED[second].applyAsLong(fresh);
                for (int first = 0; first < ASKED.length; first++) {
                    BagPhrases x = made(house);
                    ASKED[first].applyAsLong(x);
                    CHANGED[change].accept(x);
                    CHECK.same(NAMES[first] + ", " + CHANGES[change] + ", " + NAMES[second], due, ASKED[second].applyAsLong(x));
                }
            }
        }
    }
}
