/** Promises 25 to 27: what is seen of an unknown phrase, and what it may still be. */
public final class SeenTest {
    private static final Check CHECK = new Check();

    /** Phrases: 0 0 1, 0 1 0, 0 2, 1 0 0, 2 0. */
    private static final String HOUSE = "waA2wbA3wabB9+a+b+a^A^B.A.B:AA:AB:BA";

    public static void main(String[] args) {
        seeing();
        unseeing();
        left();
        together();
        tooMany();
        CHECK.end();
    }

    private static void seeing() {
        CHECK.part("promise 25");
        BagPhrases x = Check.house(HOUSE);
        int[][] bad = {{-1, 0, 0}, {4, 0, 0}, {0, -1, 0}, {0, 13, 0}, {0, 0, -1}, {0, 0, 2}};
        for (int[] one : bad) {
            CHECK.same("see(" + one[0] + ", " + one[1] + ", " + one[2] + ")", -2, x.see(one[0], one[1], one[2]));
        }
        CHECK.same("about(11)", 0, x.about(11));
        for (int size = 1; size <= 6; size++) {
            CHECK.same("see(3, 12, 0)", size, x.see(3, 12, 0));
        }
        CHECK.same("see(0, 0, 0), full", -4, x.see(0, 0, 0));
        for (int[] one : bad) {
            CHECK.same("see, full", -2, x.see(one[0], one[1], one[2]));
        }
        CHECK.same("about(11)", 6, x.about(11));
        CHECK.same("left(0)", 5, x.left(0));
        CHECK.same("about(10): it is no doing", 0, x.about(10));
    }

    private static void unseeing() {
        CHECK.part("promise 26");
        BagPhrases x = Check.house(HOUSE);
        CHECK.same("unsee()", 0, x.unsee());
        x.see(0, 9, 1);
        x.see(0, 9, 1);
        CHECK.same("left(0)", 0, x.left(0));
        CHECK.same("unsee()", 2, x.unsee());
        CHECK.same("left(0)", 5, x.left(0));
        CHECK.same("about(11)", 0, x.about(11));
    }

    private static void seen(int what, int v, int was, int many, int least) {
        BagPhrases x = Check.house(HOUSE);
        x.see(what, v, was);
        CHECK.same("left(0) behind see(" + what + ", " + v + ", " + was + ")", many, x.left(0));
        CHECK.same("left(1) behind see(" + what + ", " + v + ", " + was + ")", least, x.left(1));
    }

    private static void left() {
        CHECK.part("promise 27");
        BagPhrases x = Check.house(HOUSE);
        CHECK.same("left(-1)", -2, x.left(-1));
        CHECK.same("left(2)", -2, x.left(2));
        CHECK.same("left(0)", 5, x.left(0));
        CHECK.same("left(1)", 0, x.left(1));
        seen(0, 2, 1, 2, 2);
        seen(0, 2, 0, 3, 0);
        seen(0, 3, 1, 0, -9);
        seen(0, 3, 0, 5, 0);
        seen(0, 12, 0, 5, 0);
        seen(1, 2, 1, 2, 2);
        seen(1, 2, 0, 3, 0);
        seen(1, 0, 1, 0, -9);
        seen(1, 12, 0, 5, 0);
        seen(2, 1, 1, 1, 3);
        seen(2, 0, 0, 2, 3);
        seen(2, 11, 1, 0, -9);
        seen(3, 0, 1, 3, 1);
        seen(3, 0, 0, 2, 0);
        seen(3, 10, 0, 5, 0);
        // 0 0 1, then 0 2: the last word of the longer one is not in the shorter one
        x = Check.house("waA0wbC0wabB0+a+a+b^A.B.C:AA:AB:AC");
        CHECK.same("many(0)", 2, x.many(0));
        x.see(0, 1, 1);
        CHECK.same("left(0), a shorter one behind a longer one", 1, x.left(0));
        x = new BagPhrases();
        CHECK.same("left(0) of none", 0, x.left(0));
        CHECK.same("left(1) of none", -9, x.left(1));
    }

    private static void together() {
        CHECK.part("promise 27, of several seen");
        BagPhrases x = Check.house(HOUSE);
        x.see(3, 0, 1);
        x.see(0, 1, 1);
        CHECK.same("left(0)", 2, x.left(0));
        x.see(2, 0, 0);
        CHECK.same("left(0)", 1, x.left(0));
        CHECK.same("left(1)", 3, x.left(1));
        x.bar(2);
        CHECK.same("left(1), fewer ahead", 2, x.left(1));
        x.see(1, 3, 0);
        CHECK.same("left(0)", 0, x.left(0));
        CHECK.same("left(1)", -9, x.left(1));
        x.unsee();
        x.see(0, 0, 1);
        x.see(0, 0, 0);
        CHECK.same("left(0), both ways", 0, x.left(0));
    }

    private static void tooMany() {
        CHECK.part("promise 27, the 2000");
        BagPhrases x = Check.house("waA0waA0waA0waA0waA0waA0waA0waA0waA0waA0+a+a+a^A.A:AA");
        x.see(0, 9, 0);
        CHECK.same("left(0), 1000", 729, x.left(0));
        x.put(0);
        CHECK.same("left(0), 10000", -3, x.left(0));
        CHECK.same("left(1), 10000", -3, x.left(1));
        CHECK.same("left(2), 10000", -2, x.left(2));
        // four of two words, then three of five: 2000; if kind D begins, one phrase more
        x = Check.house("waA0waA0wbB0wbB0wbB0wbB0wbB0waaaabbD0wbC0+a+a+a+a+b+b+b^A.B.C:AA:AB:BB:DC");
        CHECK.same("many(0)", 2000, x.many(0));
        CHECK.same("left(0), 2000", 2000, x.left(0));
        x.see(2, 1, 1);
        CHECK.same("left(0), 2000", 1000, x.left(0));
        CHECK.same("left(1), 2000", 1000, x.left(1));
        x.allow(0, 3, 0);
        CHECK.same("many(0)", 2001, x.many(0));
        CHECK.same("left(0), 2001", -3, x.left(0));
        CHECK.same("left(1), 2001", -3, x.left(1));
    }
}
