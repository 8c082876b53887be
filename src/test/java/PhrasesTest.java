/** Promises 15 to 24: phrases counted, ordered, the best one, rows and why they are none, judging. */
public final class PhrasesTest {
    private static final Check CHECK = new Check();

    /**
     * The bag a a b. Phrases: 0 0 1, 0 1 0, 0 2, 1 0 0, 2 0 (word 3 would begin, but none may follow it, and
     * it leaves a; word 4 has a letter too many).
     */
    private static final String HOUSE = "waA2wbA3wabB9wbaC9wbbA9+a+b+a^A^B^C.A.B.C:AA:AB:BA";

    private static final int[][] PHRASES = {{0, 0, 1}, {0, 1, 0}, {0, 2}, {1, 0, 0}, {2, 0}};

    public static void main(String[] args) {
        counting();
        having();
        best();
        numbered();
        rows();
        reasons();
        firstReasons();
        numbers();
        nearly();
        judging();
        judgedDoings();
        judgedRefusals();
        CHECK.end();
    }

    private static void counting() {
        CHECK.part("promise 15");
        BagPhrases x = Check.house(HOUSE);
        long[] due = {5, 0, 2, 3, 0, 0, 0, 0, 0, 0, 0, 0, 0};
        for (int words = 0; words <= 12; words++) {
            CHECK.same("many(" + words + ")", due[words], x.many(words));
        }
        CHECK.same("many(-1)", -2, x.many(-1));
        CHECK.same("many(13)", -2, x.many(13));
        x.allow(2, 0, 1);
        CHECK.same("many(0), B not behind A", 4, x.many(0));
        x.undo();
        x.allow(2, 2, 0);
        CHECK.same("many(0), A behind C", 6, x.many(0));
        x.allow(1, 0, 0);
        CHECK.same("many(0), A not at the end", 1, x.many(0));
        x.allow(0, 0, 0);
        CHECK.same("many(0), A not at the beginning", 0, x.many(0));
        BagPhrases one = Check.house("waA0+a^A.A");
        CHECK.same("many(1) of one word", 1, one.many(1));
        one.take(0);
        CHECK.same("many(0) of an empty bag", 0, one.many(0));
    }

    private static void having() {
        CHECK.part("promise 16");
        BagPhrases x = Check.house(HOUSE);
        int[] due = {5, 3, 2, 0, 0};
        for (int word = 0; word < due.length; word++) {
            CHECK.same("having(" + word + ")", due[word], x.having(word));
        }
        CHECK.same("having(5)", -1, x.having(5));
        CHECK.same("having(-1)", -1, x.having(-1));
        x.bar(2);
        CHECK.same("having(2), barred", 0, x.having(2));
        CHECK.same("having(1)", 3, x.having(1));
    }

    private static void best() {
        CHECK.part("promise 17");
        BagPhrases x = Check.house(HOUSE);
        int[] due = {11, 2, 0, 2, -9, -9, -9, -9, -9, -9, -9, -9, -9, -9};
        for (int k = 0; k <= 13; k++) {
            CHECK.same("best(" + k + "), the first of two", due[k], x.best(k));
        }
        CHECK.same("best(-1)", -2, x.best(-1));
        CHECK.same("best(14)", -2, x.best(14));
        x.rank(2, 4);
        CHECK.same("best(0)", 7, x.best(0));
        CHECK.same("best(1)", 3, x.best(1));
        CHECK.same("best(4)", 1, x.best(4));
        x.bar(0);
        CHECK.same("best(0) of none", -9, x.best(0));
        CHECK.same("best(13) of none", -9, x.best(13));
        CHECK.same("best(14) of none", -2, x.best(14));
        x = Check.house("waA0+a+a^A.A:AA");
        CHECK.same("best(0), worth nothing", 0, x.best(0));
        CHECK.same("best(1), worth nothing", 2, x.best(1));
        x = Check.house("waA9+a+a+a+a+a+a+a+a+a+a+a+a^A.A:AA");
        CHECK.same("best(0) of twelve", 108, x.best(0));
        CHECK.same("best(13) of twelve", 0, x.best(13));
    }

    private static void numbered() {
        CHECK.part("promise 18");
        BagPhrases x = Check.house(HOUSE);
        int[] worths = {7, 7, 11, 7, 11};
        for (int number = 0; number < PHRASES.length; number++) {
            int size = PHRASES[number].length;
            CHECK.same("phrase(" + number + ", 0)", size, x.phrase(number, 0));
            for (int k = 1; k <= 12; k++) {
                CHECK.same("phrase(" + number + ", " + k + ")", k <= size ? PHRASES[number][k - 1] : -9, x.phrase(number, k));
            }
            CHECK.same("phrase(" + number + ", 13)", worths[number], x.phrase(number, 13));
        }
        CHECK.same("phrase(5, 0)", -1, x.phrase(5, 0));
        CHECK.same("phrase(-1, 0)", -1, x.phrase(-1, 0));
        CHECK.same("phrase(5, 14)", -1, x.phrase(5, 14));
        CHECK.same("phrase(4, 14)", -2, x.phrase(4, 14));
        CHECK.same("phrase(4, -1)", -2, x.phrase(4, -1));
        CHECK.same("phrase(2^32, 0)", -1, x.phrase(1L << 32, 0));
        CHECK.same("phrase(0, 0) of none", -1, new BagPhrases().phrase(0, 0));
    }

    private static void rows() {
        CHECK.part("promises 19, 20");
        BagPhrases x = Check.house(HOUSE);
        CHECK.same("tell(5)", -1, x.tell(5));
        CHECK.same("tell(-1)", -1, x.tell(-1));
        CHECK.same("clear()", 0, x.clear());
        for (int size = 1; size <= 12; size++) {
            CHECK.same("tell(4)", size, x.tell(4));
        }
        CHECK.same("tell(0), full", -4, x.tell(0));
        CHECK.same("tell(5), full", -1, x.tell(5));
        CHECK.same("about(13)", 12, x.about(13));
        CHECK.same("clear()", 12, x.clear());
        CHECK.same("about(13)", 0, x.about(13));
        CHECK.same("tell(0)", 1, x.tell(0));
        x.keep(0);
        x.put(1);
        x.undo();
        x.bar(0);
        x.again(0);
        CHECK.same("about(13): it stays", 1, x.about(13));
        CHECK.same("about(10): A ROW is no doing", 0, x.about(10));
    }

    private static void reason(BagPhrases x, int why, int place, int letter, int amount) {
        CHECK.same("why(0)", why, x.why(0));
        CHECK.same("why(1)", place, x.why(1));
        CHECK.same("why(2)", letter, x.why(2));
        CHECK.same("why(3)", amount, x.why(3));
        CHECK.holds("number() is one if it is a phrase", x.number() >= 0 == (why == 0));
    }

    private static void reasons() {
        CHECK.part("promise 21");
        BagPhrases x = Check.house(HOUSE);
        CHECK.same("why(-1)", -2, x.why(-1));
        CHECK.same("why(4)", -2, x.why(4));
        reason(x, 6, 0, -9, 0);
        Check.tell(x, 0, 1, 0);
        reason(x, 0, -9, -9, 0);
        x.bar(1);
        reason(x, 1, 1, -9, 0);
        x.undo();
        Check.tell(x, 2, 2);
        reason(x, 2, 1, -9, 0);
        Check.tell(x, 4);
        reason(x, 3, 0, 1, 1);
        Check.tell(x, 1, 4);
        reason(x, 3, 1, 1, 2);
        Check.tell(x, 1);
        reason(x, 4, 1, 0, 2);
        Check.tell(x, 0, 0);
        reason(x, 4, 2, 1, 1);
        Check.tell(x, 2, 0);
        x.allow(1, 0, 0);
        reason(x, 5, 2, -9, 0);
        Check.tell(x, 0, 0);
        reason(x, 4, 2, 1, 1);
    }

    private static void firstReasons() {
        CHECK.part("promise 21, of several");
        BagPhrases x = Check.house("wbaA1waB1wgfgC1+g+a^A.B:AB:BC");
        Check.tell(x, 0);
        reason(x, 3, 0, 1, 1);
        x.put(1);
        Check.tell(x, 2);
        reason(x, 2, 0, -9, 0);
        x.bar(2);
        reason(x, 1, 0, -9, 0);
        x.bar(2);
        Check.tell(x, 0, 2);
        reason(x, 2, 1, -9, 0);
        x.put(0);
        Check.tell(x, 0, 1, 2);
        // g comes first as it is spelt, though f is the lesser one and wanting too
        reason(x, 3, 2, 6, 1);
        x.take(6);
        reason(x, 3, 2, 6, 2);
        Check.tell(x, 0, 1);
        reason(x, 0, -9, -9, 0);
        // a later word's barring is told behind an earlier one's wanting letter
        x.take(1);
        x.bar(1);
        reason(x, 3, 0, 1, 1);
        x = Check.house("wbA0".repeat(9) + "wabcdefA0+a+b+c+d+e+f^A.A");
        Check.tell(x, 9);
        reason(x, 0, -9, -9, 0);
        BagPhrases none = new BagPhrases();
        reason(none, 6, 0, -9, 0);
        none.put(3);
        reason(none, 6, 0, -9, 0);
    }

    private static void numbers() {
        CHECK.part("promise 22");
        BagPhrases x = Check.house(HOUSE);
        CHECK.same("number() of no words", -9, x.number());
        for (int number = 0; number < PHRASES.length; number++) {
            Check.tell(x, PHRASES[number]);
            CHECK.same("number()", number, x.number());
        }
        Check.tell(x, 2, 0);
        x.bar(1);
        CHECK.same("number(), fewer ahead", 1, x.number());
        x.bar(2);
        CHECK.same("number(), barred", -9, x.number());
        Check.tell(x, 2);
        CHECK.same("number(), letters left", -9, x.number());
    }

    private static void nearly() {
        CHECK.part("promise 23");
        BagPhrases x = Check.house("waaA1wbB1wccccccA1+a+a+b^A.B:AB:BB");
        CHECK.same("nearly(-1)", -2, x.nearly(-1));
        CHECK.same("nearly(2)", -2, x.nearly(2));
        CHECK.same("nearly(0)", 2, x.nearly(0));
        CHECK.same("nearly(1): aa may not end", 0, x.nearly(1));
        x.allow(1, 0, 0);
        CHECK.same("nearly(1): aa may end", 2, x.nearly(1));
        x.put(2);
        CHECK.same("nearly(1)", 4, x.nearly(1));
        CHECK.same("nearly(0)", 0, x.nearly(0));
        CHECK.same("about(10): they are no doings", 2, x.about(10));
        CHECK.same("about(1)", 4, x.about(1));
        CHECK.same("many(0)", 0, x.many(0));
        x = Check.house("whA1+h^A.A:AA");
        CHECK.same("nearly(1): nothing would be left", 0, x.nearly(1));
        CHECK.same("nearly(0)", 128, x.nearly(0));
        x.take(7);
        CHECK.same("nearly(0) of an empty bag", 128, x.nearly(0));
        CHECK.same("nearly(1) of an empty bag", 0, x.nearly(1));
        for (int i = 0; i < 12; i++) {
            x.put(7);
        }
        CHECK.same("nearly(0), a thirteenth", 128, x.nearly(0));
        CHECK.same("nearly(1), an eleventh", 128, x.nearly(1));
        CHECK.same("many(0) still", 1, x.many(0));
        x.bar(0);
        CHECK.same("nearly(0), barred", 0, x.nearly(0));
    }

    private static void judging() {
        CHECK.part("promise 24");
        BagPhrases x = Check.house(HOUSE);
        CHECK.same("judge: five phrases", -9, x.judge(1, 4005));
        CHECK.same("judge: four phrases", 0, x.judge(1, 4004));
        CHECK.same("judge: 2 in a phrase", -9, x.judge(1, 5201));
        CHECK.same("judge: 2 in none", 0, x.judge(1, 5200));
        CHECK.same("judge: 3 in none", -9, x.judge(1, 5300));
        CHECK.same("judge: 3 in a phrase", 0, x.judge(1, 5301));
        CHECK.same("judge: the best is worth 11", -9, x.judge(1, 7011));
        CHECK.same("judge: the best is worth 10", 0, x.judge(1, 7010));
        CHECK.same("judge: 2 barred, then 3 phrases, then worth 7", -9, x.judge(3, 320040037007L));
        CHECK.same("judge: 2 barred and no more", -9, x.judge(4, 3200320040055201L));
        CHECK.same("judge: a taken, then four phrases, the best worth 9", -9, x.judge(3, 200040047009L));
        CHECK.same("judge: a taken, b taken, b taken", 2, x.judge(3, 200021002100L));
        CHECK.same("judge: all taken, then no phrase", -9, x.judge(4, 2000200021004000L));
        CHECK.same("judge: all taken, no best", 3, x.judge(4, 2000200021007000L));
        CHECK.same("judge: B not behind A, then four", -9, x.judge(2, 60104004L));
        CHECK.same("judge: A behind C, then six", -9, x.judge(2, 62004006L));
        CHECK.same("judge: h put, then none", -9, x.judge(2, 17004000L));
        CHECK.same("about(10): nothing is done", 0, x.about(10));
        CHECK.same("many(0): nothing is done", 5, x.many(0));
        CHECK.same("about(3): nothing is done", 0, x.about(3));
        CHECK.same("letter(0, 2): nothing is done", 3, x.letter(0, 2));
    }

    private static void judgedDoings() {
        CHECK.part("promise 24, what can not be");
        BagPhrases x = Check.house(HOUSE);
        int[] never = {0, 1, 999, 1800, 1900, 1001, 1010, 2700, 2001, 2010, 2800, 3500, 3900, 3001, 3010, 4105,
            5500, 5501, 5202, 5211, 5210, 6400, 6040, 6001, 7111, 8000, 9000, 9999};
        for (int figures : never) {
            CHECK.same("judge(1, " + figures + ")", 0, x.judge(1, figures));
            CHECK.same("judge(2, 4005 " + figures + ")", 1, x.judge(2, 40050000L + figures));
        }
        for (int i = 0; i < 9; i++) {
            x.put(7);
        }
        CHECK.same("judge: a thirteenth letter", 0, x.judge(1, 1000));
        CHECK.same("judge: taken, then a thirteenth letter", 2, x.judge(3, 200010001000L));
        CHECK.same("about(1)", 12, x.about(1));
    }

    private static void judgedRefusals() {
        CHECK.part("promise 24, refusals");
        BagPhrases x = Check.house(HOUSE);
        CHECK.same("judge(0, 0)", -2, x.judge(0, 0));
        CHECK.same("judge(5, 0)", -2, x.judge(5, 0));
        CHECK.same("judge(-1, 0)", -2, x.judge(-1, 0));
        CHECK.same("judge(1, -1)", -2, x.judge(1, -1));
        CHECK.same("judge(1, 9999)", 0, x.judge(1, 9999));
        CHECK.same("judge(1, 10000)", -2, x.judge(1, 10000));
        CHECK.same("judge(2, 99999999)", 0, x.judge(2, 99999999L));
        CHECK.same("judge(2, 100000000)", -2, x.judge(2, 100000000L));
        CHECK.same("judge(3, 999999999999)", 0, x.judge(3, 999999999999L));
        CHECK.same("judge(3, 1000000000000)", -2, x.judge(3, 1000000000000L));
        CHECK.same("judge(4, 9999999999999999)", 0, x.judge(4, 9999999999999999L));
        CHECK.same("judge(4, 10000000000000000)", -2, x.judge(4, 10000000000000000L));
        CHECK.same("judge(4, the least long)", -2, x.judge(4, Long.MIN_VALUE));
        CHECK.same("judge(2, 4005): the first is 0000", 0, x.judge(2, 4005));
    }
}
