/** Promises 9 to 14, 32 and 33: doings, their undoing, and slots. */
public final class DoingsTest {
    private static final Check CHECK = new Check();
    private static final String HOUSE = "waA1wabB2wcC3+a+b+c^A.C:AB";

    public static void main(String[] args) {
        putting();
        taking();
        barring();
        ranking();
        allowing();
        undoing();
        forgetting();
        forgettingOfAllSorts();
        counted();
        keeping();
        goingOn();
        CHECK.end();
    }

    private static void bag(BagPhrases x, int... due) {
        for (int letter = 0; letter < 8; letter++) {
            CHECK.same("letter(" + letter + ", 0)", letter < due.length ? due[letter] : 0, x.letter(letter, 0));
        }
    }

    private static void putting() {
        CHECK.part("promise 9");
        BagPhrases x = Check.house(HOUSE);
        CHECK.same("put(8)", -1, x.put(8));
        CHECK.same("put(-1)", -1, x.put(-1));
        CHECK.same("about(10)", 0, x.about(10));
        for (int size = 4; size <= 12; size++) {
            CHECK.same("put(7)", size, x.put(7));
        }
        CHECK.same("about(10)", 9, x.about(10));
        CHECK.same("put(0)", -4, x.put(0));
        CHECK.same("put(8), full", -1, x.put(8));
        CHECK.same("about(10)", 9, x.about(10));
        bag(x, 1, 1, 1, 0, 0, 0, 0, 9);
    }

    private static void taking() {
        CHECK.part("promise 10");
        BagPhrases x = Check.house(HOUSE);
        CHECK.same("take(8)", -1, x.take(8));
        CHECK.same("take(-1)", -1, x.take(-1));
        CHECK.same("take(3)", -3, x.take(3));
        CHECK.same("about(10)", 0, x.about(10));
        CHECK.same("take(1)", 2, x.take(1));
        CHECK.same("take(1)", -3, x.take(1));
        CHECK.same("take(0)", 1, x.take(0));
        CHECK.same("take(2)", 0, x.take(2));
        CHECK.same("about(10)", 3, x.about(10));
        CHECK.same("many(0) of an empty bag", 0, x.many(0));
        bag(x);
    }

    private static void barring() {
        CHECK.part("promise 11");
        BagPhrases x = Check.house(HOUSE);
        CHECK.same("bar(3)", -1, x.bar(3));
        CHECK.same("bar(-1)", -1, x.bar(-1));
        CHECK.same("about(10)", 0, x.about(10));
        CHECK.same("bar(2)", 1, x.bar(2));
        CHECK.same("bar(0)", 1, x.bar(0));
        CHECK.same("about(3)", 5, x.about(3));
        CHECK.same("bar(2)", 0, x.bar(2));
        CHECK.same("about(3)", 1, x.about(3));
        CHECK.same("about(10)", 3, x.about(10));
    }

    private static void ranking() {
        CHECK.part("promise 12");
        BagPhrases x = Check.house(HOUSE);
        CHECK.same("rank(3, 0)", -1, x.rank(3, 0));
        CHECK.same("rank(3, 10)", -1, x.rank(3, 10));
        CHECK.same("rank(0, 10)", -2, x.rank(0, 10));
        CHECK.same("rank(0, -1)", -2, x.rank(0, -1));
        CHECK.same("about(10)", 0, x.about(10));
        CHECK.same("rank(0, 9)", 1, x.rank(0, 9));
        CHECK.same("rank(0, 0)", 9, x.rank(0, 0));
        CHECK.same("rank(0, 0)", 0, x.rank(0, 0));
        CHECK.same("about(10)", 3, x.about(10));
        CHECK.same("word(0, 2)", 0, x.word(0, 2));
        CHECK.same("undo()", 2, x.undo());
        CHECK.same("word(0, 2)", 0, x.word(0, 2));
        CHECK.same("undo()", 1, x.undo());
        CHECK.same("word(0, 2)", 9, x.word(0, 2));
        CHECK.same("undo()", 0, x.undo());
        CHECK.same("word(0, 2)", 1, x.word(0, 2));
    }

    private static void allowing() {
        CHECK.part("promise 13");
        BagPhrases x = Check.house(HOUSE);
        CHECK.same("allow(0, 4, 0)", -1, x.allow(0, 4, 0));
        CHECK.same("allow(0, -1, 0)", -1, x.allow(0, -1, 0));
        CHECK.same("allow(0, 0, 4)", -1, x.allow(0, 0, 4));
        CHECK.same("allow(1, 0, -1)", -1, x.allow(1, 0, -1));
        CHECK.same("allow(3, 0, 4)", -1, x.allow(3, 0, 4));
        CHECK.same("allow(3, 0, 0)", -2, x.allow(3, 0, 0));
        CHECK.same("allow(-1, 0, 0)", -2, x.allow(-1, 0, 0));
        CHECK.same("about(10)", 0, x.about(10));
        CHECK.same("allow(0, 0, 3)", 0, x.allow(0, 0, 3));
        CHECK.same("allow(0, 3, 0)", 1, x.allow(0, 3, 0));
        CHECK.same("about(4)", 8, x.about(4));
        CHECK.same("allow(1, 2, 1)", 0, x.allow(1, 2, 1));
        CHECK.same("allow(1, 1, 2)", 1, x.allow(1, 1, 2));
        CHECK.same("about(5)", 2, x.about(5));
        CHECK.same("allow(2, 0, 1)", 0, x.allow(2, 0, 1));
        CHECK.same("allow(2, 1, 0)", 1, x.allow(2, 1, 0));
        CHECK.same("allow(2, 3, 3)", 1, x.allow(2, 3, 3));
        CHECK.same("letter(0, 2)", 0, x.letter(0, 2));
        CHECK.same("letter(1, 2)", 1, x.letter(1, 2));
        CHECK.same("letter(3, 2)", 8, x.letter(3, 2));
        CHECK.same("about(10)", 7, x.about(10));
    }

    private static void undoing() {
        CHECK.part("promise 14");
        BagPhrases x = Check.house(HOUSE);
        CHECK.same("undo()", -3, x.undo());
        x.put(3);
        x.take(0);
        x.bar(1);
        x.rank(2, 8);
        x.allow(0, 1, 0);
        x.allow(1, 2, 0);
        x.allow(2, 0, 1);
        CHECK.same("undo() of FOLLOWS", 6, x.undo());
        CHECK.same("letter(0, 2)", 2, x.letter(0, 2));
        CHECK.same("undo() of ENDS", 5, x.undo());
        CHECK.same("about(5)", 4, x.about(5));
        CHECK.same("undo() of BEGINS", 4, x.undo());
        CHECK.same("about(4)", 1, x.about(4));
        CHECK.same("undo() of RANKED", 3, x.undo());
        CHECK.same("word(2, 2)", 3, x.word(2, 2));
        CHECK.same("undo() of BARRED", 2, x.undo());
        CHECK.same("about(3)", 0, x.about(3));
        CHECK.same("undo() of TAKEN", 1, x.undo());
        bag(x, 1, 1, 1, 1);
        CHECK.same("undo() of PUT", 0, x.undo());
        bag(x, 1, 1, 1);
        CHECK.same("undo()", -3, x.undo());
    }

    private static void forgetting() {
        CHECK.part("promise 14, a full row");
        BagPhrases x = Check.house(HOUSE);
        for (int i = 1; i <= 14; i++) {
            x.rank(0, i % 10);
            CHECK.same("about(10)", i, x.about(10));
        }
        x.rank(1, 7);
        x.bar(2);
        CHECK.same("about(10)", 14, x.about(10));
        CHECK.same("undo()", 13, x.undo());
        CHECK.same("undo()", 12, x.undo());
        CHECK.same("word(1, 2)", 2, x.word(1, 2));
        for (int left = 11; left >= 0; left--) {
            CHECK.same("undo()", left, x.undo());
        }
        CHECK.same("word(0, 2): two were forgotten", 2, x.word(0, 2));
        CHECK.same("undo()", -3, x.undo());
    }

    /** Doings of each sort, so that each must move down in the row with what it was. */
    private static void forgettingOfAllSorts() {
        CHECK.part("promise 14, a full row of all sorts");
        BagPhrases x = Check.house(HOUSE);
        x.put(4);
        x.put(5);
        x.take(0);
        x.bar(0);
        x.rank(1, 6);
        x.allow(0, 2, 1);
        x.allow(1, 1, 2);
        x.allow(2, 3, 1);
        x.rank(1, 7);
        x.bar(2);
        x.take(1);
        x.put(6);
        x.allow(2, 0, 1);
        x.rank(2, 0);
        x.put(7);
        x.bar(0);
        for (int left = 13; left >= 0; left--) {
            CHECK.same("undo()", left, x.undo());
        }
        bag(x, 1, 1, 1, 0, 1, 1);
        CHECK.same("about(3)", 0, x.about(3));
        CHECK.same("about(4)", 1, x.about(4));
        CHECK.same("about(5)", 4, x.about(5));
        CHECK.same("letter(0, 2)", 2, x.letter(0, 2));
        CHECK.same("letter(3, 2)", 0, x.letter(3, 2));
        CHECK.same("word(1, 2)", 2, x.word(1, 2));
        CHECK.same("word(2, 2)", 3, x.word(2, 2));
    }

    /** What is told of phrases is never that of an earlier state. */
    private static void counted() {
        CHECK.part("phrases behind each doing");
        BagPhrases x = Check.house("waA1waA2+a^A.A:AA");
        CHECK.same("many(0)", 2, x.many(0));
        CHECK.same("best(0)", 2, x.best(0));
        x.keep(0);
        x.put(0);
        CHECK.same("many(0) behind put", 4, x.many(0));
        x.bar(0);
        CHECK.same("many(0) behind bar", 1, x.many(0));
        x.undo();
        CHECK.same("many(0) behind undo", 4, x.many(0));
        x.rank(0, 9);
        CHECK.same("best(0) behind rank", 18, x.best(0));
        x.allow(2, 0, 0);
        CHECK.same("many(0) behind allow", 0, x.many(0));
        x.again(0);
        CHECK.same("many(0) behind again", 2, x.many(0));
        CHECK.same("hope(5, true) behind again", 3, x.hope(5, true));
        x.take(0);
        CHECK.same("hope(5, true) behind take", 0, x.hope(5, true));
        CHECK.same("many(0) behind take", 0, x.many(0));
        Check.write(x, "waaA4+a+a^A.A");
        x.house();
        CHECK.same("many(0) behind house", 1, x.many(0));
        CHECK.same("share(0, true) behind house", 1, x.share(0, true));
        CHECK.same("best(0) behind house", 4, x.best(0));
        CHECK.same("nearly(0)", 0, x.nearly(0));
        CHECK.same("many(1) behind nearly", 1, x.many(1));
    }

    private static void keeping() {
        CHECK.part("promise 32");
        BagPhrases x = Check.house(HOUSE);
        CHECK.same("keep(2)", -1, x.keep(2));
        CHECK.same("keep(-1)", -1, x.keep(-1));
        x.put(0);
        CHECK.same("keep(0)", 3, x.keep(0));
        CHECK.same("about(10): doings stay", 1, x.about(10));
        x.bar(0);
        CHECK.same("keep(1)", 3, x.keep(1));
        x.undo();
        x.undo();
        CHECK.same("again(1)", 3, x.again(1));
        CHECK.same("about(3)", 1, x.about(3));
        bag(x, 2, 1, 1);
        x.take(1);
        CHECK.same("keep(1) once more", 3, x.keep(1));
        x.put(1);
        CHECK.same("again(1)", 3, x.again(1));
        bag(x, 2, 0, 1);
        CHECK.same("keep(0) of a new object", 0, new BagPhrases().keep(0));
    }

    private static void goingOn() {
        CHECK.part("promise 33");
        BagPhrases x = Check.house(HOUSE);
        CHECK.same("again(2)", -1, x.again(2));
        CHECK.same("again(-1)", -1, x.again(-1));
        CHECK.same("again(0)", -3, x.again(0));
        x.put(5);
        x.rank(1, 9);
        x.keep(0);
        CHECK.same("again(1)", -3, x.again(1));
        CHECK.same("about(10) behind what is refused", 2, x.about(10));
        x.take(5);
        x.bar(2);
        x.rank(1, 0);
        x.allow(0, 3, 3);
        x.allow(1, 3, 3);
        x.allow(2, 3, 3);
        x.tell(1);
        x.see(0, 1, 1);
        x.seed(5);
        CHECK.same("again(0)", 3, x.again(0));
        bag(x, 1, 1, 1, 0, 0, 1);
        CHECK.same("about(3)", 0, x.about(3));
        CHECK.same("about(4)", 1, x.about(4));
        CHECK.same("about(5)", 4, x.about(5));
        CHECK.same("letter(3, 2)", 0, x.letter(3, 2));
        CHECK.same("word(1, 2)", 9, x.word(1, 2));
        CHECK.same("about(10): no doings", 0, x.about(10));
        CHECK.same("undo()", -3, x.undo());
        CHECK.same("about(11): SEEN stays", 1, x.about(11));
        CHECK.same("about(13): A ROW stays", 1, x.about(13));
        CHECK.same("seed(0): THE SEED stays", 5, x.seed(0));
        x.put(6);
        CHECK.same("again(0), kept still", 3, x.again(0));
        bag(x, 1, 1, 1, 0, 0, 1);
    }
}
