/** The bounds that the document names in promises 9 to 14, 32 and 33, a sentence at a time. */
public final class BoundsOfDoingsTest {
    private static final Check CHECK = new Check();
    private static final int UNKNOWN = -1, BAD = -2, LATE = -3, FULL = -4;
    private static final int LEAST = Integer.MIN_VALUE, GREATEST = Integer.MAX_VALUE;

    /** The sorts of doings, as doing() does them. */
    private static final int PUT = 0, TAKE = 1, BAR = 2, RANK = 3, BEGIN = 4, END = 5, FOLLOW = 6, SORTS = 7;

    public static void main(String[] args) {
        putBounds();
        putFull();
        putUnknownFirst();
        putOfOneLetter();
        takeBounds();
        takeLate();
        takeToTheLast();
        barBounds();
        barOrNoMore();
        rankBounds();
        rankUnknownFirst();
        rankToldAgain();
        allowBounds();
        allowUnknownFirst();
        allowOtherOfNoMatter();
        allowTurned();
        undoNone();
        undoLastFirst();
        undoIsNoDoing();
        rowOfDoingsFull();
        eachSortForgotten();
        roomBehindUndo();
        refusedIsNoDoing();
        undoneBagNeverBeyond();
        phrasesBehindEachDoing();
        keepBounds();
        keepIsOverwritten();
        slotsApart();
        keepLeavesDoings();
        againBounds();
        againLate();
        againAsKept();
        againNoDoings();
        againLeavesTheRest();
        phrasesAsKept();
        CHECK.covered(9, 14);
        CHECK.covered(32, 33);
        CHECK.end();
    }

    /** Whatever can be told of the bag, barred words, ranks, what is allowed, in one text. */
    private static String setting(BagPhrases x) {
        StringBuilder told = new StringBuilder();
        for (int letter = 0; letter < 8; letter++) {
            told.append(x.letter(letter, 0)).append(letter < 7 ? ' ' : '|');
        }
        told.append(x.about(3)).append('|');
        for (int word = 0; word < x.about(0); word++) {
            told.append(x.word(word, 2)).append(' ');
        }
        told.append('|').append(x.about(4)).append(' ').append(x.about(5));
        for (int kind = 0; kind < 4; kind++) {
            told.append(' ').append(x.letter(kind, 2));
        }
        return told.toString();
    }

    private static void sameSetting(String when, String due, BagPhrases x) {
        String got = setting(x);
        CHECK.holds(when + ": " + got + ", due is " + due, due.equals(got));
    }

    // ---- promise 9

    private static void putBounds() {
        CHECK.sentence(9, "PUT: how many LETTERS THE BAG has then. UNKNOWN");
        BagPhrases x = new BagPhrases();
        CHECK.same("put(-1)", UNKNOWN, x.put(-1));
        CHECK.same("put(0)", 1, x.put(0));
        CHECK.same("put(7)", 2, x.put(7));
        CHECK.same("put(8)", UNKNOWN, x.put(8));
        CHECK.same("put(the least)", UNKNOWN, x.put(LEAST));
        CHECK.same("put(the greatest)", UNKNOWN, x.put(GREATEST));
        CHECK.same("about(1)", 2, x.about(1));
        CHECK.same("about(10)", 2, x.about(10));
        CHECK.same("letter(0, 0)", 1, x.letter(0, 0));
        CHECK.same("letter(7, 0)", 1, x.letter(7, 0));
    }

    private static void putFull() {
        CHECK.sentence(9, "FULL: there are 12");
        BagPhrases x = new BagPhrases();
        for (int size = 1; size <= 12; size++) {
            CHECK.same("put(" + size % 8 + ")", size, x.put(size % 8));
        }
        for (int letter = 0; letter < 8; letter++) {
            CHECK.same("put(" + letter + "), the 13th", FULL, x.put(letter));
        }
        CHECK.same("about(1)", 12, x.about(1));
        CHECK.same("about(10)", 12, x.about(10));
        CHECK.same("take(1)", 11, x.take(1));
        CHECK.same("put(0), the 12th again", 12, x.put(0));
        CHECK.same("put(0), the 13th", FULL, x.put(0));
        BagPhrases told = Check.house("+a".repeat(12));
        CHECK.same("put(0) behind twelve that were told", FULL, told.put(0));
        told = Check.house("+a".repeat(11));
        CHECK.same("put(0) behind eleven that were told", 12, told.put(0));
    }

    private static void putUnknownFirst() {
        CHECK.sentence(9, "UNKNOWN; FULL (of several what is told first)");
        BagPhrases x = Check.house("+a".repeat(12));
        CHECK.same("put(8)", UNKNOWN, x.put(8));
        CHECK.same("put(-1)", UNKNOWN, x.put(-1));
        CHECK.same("put(7)", FULL, x.put(7));
    }

    private static void putOfOneLetter() {
        CHECK.sentence(9, "LETTERS (12 at most, any of them more than once ..)");
        for (int letter = 0; letter < 8; letter++) {
            BagPhrases x = new BagPhrases();
            for (int size = 1; size <= 12; size++) {
                CHECK.same("put(" + letter + ")", size, x.put(letter));
            }
            CHECK.same("put(" + letter + "), the 13th", FULL, x.put(letter));
            CHECK.same("letter(" + letter + ", 0)", 12, x.letter(letter, 0));
            CHECK.same("about(2)", 1, x.about(2));
        }
    }

    // ---- promise 10

    private static void takeBounds() {
        CHECK.sentence(10, "TAKEN: how many LETTERS THE BAG has then. UNKNOWN");
        BagPhrases x = Check.house("+a+h+c");
        CHECK.same("take(-1)", UNKNOWN, x.take(-1));
        CHECK.same("take(0)", 2, x.take(0));
        CHECK.same("take(7)", 1, x.take(7));
        CHECK.same("take(8)", UNKNOWN, x.take(8));
        CHECK.same("take(the least)", UNKNOWN, x.take(LEAST));
        CHECK.same("take(the greatest)", UNKNOWN, x.take(GREATEST));
        CHECK.same("take(8) of an empty bag", UNKNOWN, new BagPhrases().take(8));
    }

    private static void takeLate() {
        CHECK.sentence(10, "LATE: it has none of it");
        BagPhrases x = Check.house("+b+b");
        CHECK.same("take(0)", LATE, x.take(0));
        CHECK.same("take(1)", 1, x.take(1));
        CHECK.same("take(1)", 0, x.take(1));
        CHECK.same("take(1)", LATE, x.take(1));
        CHECK.same("about(1)", 0, x.about(1));
        CHECK.same("about(10)", 2, x.about(10));
        BagPhrases full = Check.house("+b".repeat(12));
        CHECK.same("take(0) of a full bag without it", LATE, full.take(0));
        CHECK.same("take(2) of a full bag without it", LATE, full.take(2));
        CHECK.same("take(7) of an empty bag", LATE, new BagPhrases().take(7));
    }

    private static void takeToTheLast() {
        CHECK.sentence(10, "THE BAG holds LETTERS (12 at most ..)");
        BagPhrases x = Check.house("+a".repeat(12));
        for (int left = 11; left >= 0; left--) {
            CHECK.same("take(0)", left, x.take(0));
        }
        CHECK.same("take(0)", LATE, x.take(0));
        CHECK.same("about(2)", 0, x.about(2));
        CHECK.same("put(0)", 1, x.put(0));
    }

    // ---- promise 11

    private static void barBounds() {
        CHECK.sentence(11, "BARRED .. UNKNOWN");
        BagPhrases x = Check.house("waA0wbA0wcA0");
        CHECK.same("bar(-1)", UNKNOWN, x.bar(-1));
        CHECK.same("bar(0)", 1, x.bar(0));
        CHECK.same("bar(2)", 1, x.bar(2));
        CHECK.same("bar(3)", UNKNOWN, x.bar(3));
        CHECK.same("bar(32)", UNKNOWN, x.bar(32));
        CHECK.same("bar(the least)", UNKNOWN, x.bar(LEAST));
        CHECK.same("bar(the greatest)", UNKNOWN, x.bar(GREATEST));
        CHECK.same("about(3)", 5, x.about(3));
        CHECK.same("about(10)", 2, x.about(10));
        CHECK.same("bar(0) of no words", UNKNOWN, new BagPhrases().bar(0));
        BagPhrases ten = Check.house(Houses.tenTwins(1));
        CHECK.same("bar(9) of ten", 1, ten.bar(9));
        CHECK.same("bar(10) of ten", UNKNOWN, ten.bar(10));
    }

    private static void barOrNoMore() {
        CHECK.sentence(11, "BARRED, or no more: 1 if it is then, 0");
        BagPhrases x = Check.house(Houses.tenTwins(1));
        for (int word = 0; word < 10; word++) {
            CHECK.same("word(" + word + ", 3)", 0, x.word(word, 3));
            CHECK.same("bar(" + word + ")", 1, x.bar(word));
            CHECK.same("word(" + word + ", 3)", 1, x.word(word, 3));
            CHECK.same("many(0)", 9 - word, x.many(0));
        }
        CHECK.same("about(3)", 1023, x.about(3));
        for (int word = 9; word >= 0; word--) {
            CHECK.same("bar(" + word + ")", 0, x.bar(word));
        }
        CHECK.same("about(3)", 0, x.about(3));
        CHECK.same("many(0)", 10, x.many(0));
    }

    // ---- promise 12

    private static void rankBounds() {
        CHECK.sentence(12, "RANKED: what it was. UNKNOWN; BAD: v (0 .. 9)");
        BagPhrases x = Check.house("waA4wbA5");
        CHECK.same("rank(-1, 0)", UNKNOWN, x.rank(-1, 0));
        CHECK.same("rank(2, 0)", UNKNOWN, x.rank(2, 0));
        CHECK.same("rank(0, -1)", BAD, x.rank(0, -1));
        CHECK.same("rank(0, 10)", BAD, x.rank(0, 10));
        CHECK.same("rank(0, the least)", BAD, x.rank(0, LEAST));
        CHECK.same("rank(0, the greatest)", BAD, x.rank(0, GREATEST));
        CHECK.same("word(0, 2)", 4, x.word(0, 2));
        CHECK.same("about(10)", 0, x.about(10));
        CHECK.same("rank(0, 0)", 4, x.rank(0, 0));
        CHECK.same("rank(0, 9)", 0, x.rank(0, 9));
        CHECK.same("rank(1, 9)", 5, x.rank(1, 9));
        CHECK.same("word(0, 2)", 9, x.word(0, 2));
        BagPhrases ten = Check.house(Houses.tenTwins(1));
        CHECK.same("rank(9, 0) of ten", 9, ten.rank(9, 0));
        CHECK.same("rank(10, 0) of ten", UNKNOWN, ten.rank(10, 0));
    }

    private static void rankUnknownFirst() {
        CHECK.sentence(12, "UNKNOWN; BAD (of several what is told first)");
        BagPhrases x = Check.house("waA4");
        CHECK.same("rank(1, 10)", UNKNOWN, x.rank(1, 10));
        CHECK.same("rank(-1, -1)", UNKNOWN, x.rank(-1, -1));
        CHECK.same("rank(0, 10)", BAD, x.rank(0, 10));
        CHECK.same("rank(0, 10) of no words", UNKNOWN, new BagPhrases().rank(0, 10));
    }

    private static void rankToldAgain() {
        CHECK.sentence(12, "RANKED (to the RANK that it has: read as a DOING like others)");
        BagPhrases x = Check.house("waA4");
        CHECK.same("rank(0, 4)", 4, x.rank(0, 4));
        CHECK.same("about(10)", 1, x.about(10));
        CHECK.same("undo()", 0, x.undo());
        CHECK.same("word(0, 2)", 4, x.word(0, 2));
    }

    // ---- promise 13

    private static void allowBounds() {
        CHECK.sentence(13, "UNKNOWN: kind, other (both 0 .. 3, whatever what is); BAD: what");
        BagPhrases x = new BagPhrases();
        int[] wrong = {LEAST, -1, 4, 8, GREATEST};
        for (int what = 0; what <= 2; what++) {
            for (int kind : wrong) {
                CHECK.same("allow(" + what + ", " + kind + ", 0)", UNKNOWN, x.allow(what, kind, 0));
                CHECK.same("allow(" + what + ", 3, " + kind + ")", UNKNOWN, x.allow(what, 3, kind));
            }
        }
        int[] wrongWhat = {LEAST, -1, 3, GREATEST};
        for (int what : wrongWhat) {
            CHECK.same("allow(" + what + ", 0, 3)", BAD, x.allow(what, 0, 3));
        }
        CHECK.same("about(10)", 0, x.about(10));
        sameSetting("behind what is refused", "0 0 0 0 0 0 0 0|0||0 0 0 0 0 0", x);
        for (int what = 0; what <= 2; what++) {
            CHECK.same("allow(" + what + ", 0, 3)", 1, x.allow(what, 0, 3));
            CHECK.same("allow(" + what + ", 3, 0)", 1, x.allow(what, 3, 0));
        }
        sameSetting("behind what is done", "0 0 0 0 0 0 0 0|0||9 9 8 0 0 1", x);
    }

    private static void allowUnknownFirst() {
        CHECK.sentence(13, "UNKNOWN ..; BAD (of several what is told first)");
        BagPhrases x = new BagPhrases();
        int[] wrongWhat = {-1, 3};
        for (int what : wrongWhat) {
            CHECK.same("allow(" + what + ", 4, 0)", UNKNOWN, x.allow(what, 4, 0));
            CHECK.same("allow(" + what + ", -1, 0)", UNKNOWN, x.allow(what, -1, 0));
            CHECK.same("allow(" + what + ", 0, 4)", UNKNOWN, x.allow(what, 0, 4));
            CHECK.same("allow(" + what + ", 0, -1)", UNKNOWN, x.allow(what, 0, -1));
        }
    }

    private static void allowOtherOfNoMatter() {
        CHECK.sentence(13, "BEGINS (what = 0), ENDS (1; the other one is of no matter)");
        for (int other = 0; other <= 3; other++) {
            BagPhrases x = new BagPhrases();
            CHECK.same("allow(0, 2, " + other + ")", 1, x.allow(0, 2, other));
            CHECK.same("about(4)", 4, x.about(4));
            CHECK.same("allow(0, 2, 0)", 0, x.allow(0, 2, 0));
            CHECK.same("allow(1, 1, " + other + ")", 1, x.allow(1, 1, other));
            CHECK.same("about(5)", 2, x.about(5));
            CHECK.same("allow(1, 1, 3)", 0, x.allow(1, 1, 3));
            sameSetting("behind it all", "0 0 0 0 0 0 0 0|0||0 0 0 0 0 0", x);
        }
    }

    private static void allowTurned() {
        CHECK.sentence(13, "that the other one FOLLOWS it (2): 1 if it may then, 0");
        for (int kind = 0; kind <= 3; kind++) {
            BagPhrases x = new BagPhrases();
            for (int other = 0; other <= 3; other++) {
                CHECK.same("allow(2, " + kind + ", " + other + ")", 1, x.allow(2, kind, other));
                CHECK.same("letter(" + kind + ", 2)", (2 << other) - 1, x.letter(kind, 2));
            }
            for (int other = 0; other <= 3; other++) {
                CHECK.same("allow(2, " + kind + ", " + other + ")", 0, x.allow(2, kind, other));
            }
            sameSetting("behind it all", "0 0 0 0 0 0 0 0|0||0 0 0 0 0 0", x);
        }
    }

    // ---- promise 14

    private static void undoNone() {
        CHECK.sentence(14, "LATE: there is none");
        BagPhrases x = new BagPhrases();
        CHECK.same("undo() of a new object", LATE, x.undo());
        x.put(0);
        CHECK.same("undo()", 0, x.undo());
        CHECK.same("undo()", LATE, x.undo());
        CHECK.same("undo() once more", LATE, x.undo());
        CHECK.same("about(1)", 0, x.about(1));
        BagPhrases told = Check.house("waA1+a^A");
        CHECK.same("undo(): what a house tells is no doing", LATE, told.undo());
        CHECK.same("about(1)", 1, told.about(1));
    }

    private static BagPhrases house() {
        return Check.house("waA1wbB2+a+a+b^A.B:AB");
    }

    private static void doing(BagPhrases x, int sort) {
        switch (sort) {
            case PUT: x.put(2); break;
            case TAKE: x.take(0); break;
            case BAR: x.bar(1); break;
            case RANK: x.rank(0, 8); break;
            case BEGIN: x.allow(0, 3, 1); break;
            case END: x.allow(1, 1, 2); break;
            default: x.allow(2, 1, 3); break;
        }
    }

    private static void undoLastFirst() {
        CHECK.sentence(14, "The last DOING is undone: how many are left");
        BagPhrases x = house();
        String[] before = new String[SORTS];
        for (int sort = 0; sort < SORTS; sort++) {
            before[sort] = setting(x);
            doing(x, sort);
            CHECK.same("about(10)", sort + 1, x.about(10));
            CHECK.holds("the doing shows", !before[sort].equals(setting(x)));
        }
        for (int sort = SORTS - 1; sort >= 0; sort--) {
            CHECK.same("undo()", sort, x.undo());
            sameSetting("behind undo of sort " + sort, before[sort], x);
        }
    }

    private static void undoIsNoDoing() {
        CHECK.sentence(14, "the last one can be undone (an undoing can not)");
        BagPhrases x = house();
        x.put(0);
        x.put(1);
        CHECK.same("undo()", 1, x.undo());
        CHECK.same("undo()", 0, x.undo());
        CHECK.same("undo()", LATE, x.undo());
        CHECK.same("about(1)", 3, x.about(1));
    }

    private static void rowOfDoingsFull() {
        CHECK.sentence(14, "14 at most; when it is full, the first one is forgotten");
        for (int beyond = 0; beyond <= 14; beyond++) {
            BagPhrases x = house();
            for (int i = 1; i <= 14 + beyond; i++) {
                x.rank(0, i % 10);
                CHECK.same("about(10)", Math.min(i, 14), x.about(10));
            }
            for (int left = 13; left >= 0; left--) {
                CHECK.same("undo(), " + beyond + " beyond", left, x.undo());
            }
            CHECK.same("undo()", LATE, x.undo());
            CHECK.same("word(0, 2)", beyond == 0 ? 1 : beyond % 10, x.word(0, 2));
        }
    }

    private static void eachSortForgotten() {
        CHECK.sentence(14, "(PUT, TAKEN, BARRED, RANKED, ALLOWED) are a row ..; when it is full, the first one is forgotten");
        for (int sorts = 0; sorts < SORTS * SORTS; sorts++) {
            BagPhrases x = house();
            doing(x, sorts / SORTS);
            String first = setting(x);
            for (int i = 0; i < 13; i++) {
                x.bar(0);
            }
            String before = setting(x);
            doing(x, sorts % SORTS);
            CHECK.same("about(10)", 14, x.about(10));
            CHECK.same("undo()", 13, x.undo());
            sameSetting("behind undo of the one beyond", before, x);
            for (int left = 12; left >= 0; left--) {
                CHECK.same("undo()", left, x.undo());
            }
            CHECK.same("undo()", LATE, x.undo());
            sameSetting("the first one stays done", first, x);
        }
    }

    private static void roomBehindUndo() {
        CHECK.sentence(14, "a row (14 at most ..): with one undone there is room for one");
        BagPhrases x = house();
        x.rank(1, 9);
        for (int i = 0; i < 13; i++) {
            x.bar(0);
        }
        CHECK.same("undo()", 13, x.undo());
        x.bar(0);
        CHECK.same("about(10)", 14, x.about(10));
        for (int left = 13; left >= 0; left--) {
            CHECK.same("undo()", left, x.undo());
        }
        CHECK.same("word(1, 2): the first one was not forgotten", 2, x.word(1, 2));
    }

    private static void refusedIsNoDoing() {
        CHECK.sentence(14, "What is refused changes nothing (a full row of DOINGS, too)");
        BagPhrases x = Check.house("waA1+b".concat("+b".repeat(11)));
        x.rank(0, 5);
        for (int i = 0; i < 13; i++) {
            x.bar(0);
        }
        CHECK.all("refused doings", FULL, x.put(0), x.put(1));
        CHECK.all("refused doings", LATE, x.take(0));
        CHECK.all("refused doings", UNKNOWN, x.put(8), x.take(-1), x.bar(1), x.rank(1, 1), x.allow(0, 4, 0));
        CHECK.all("refused doings", BAD, x.rank(0, 10), x.allow(3, 0, 0));
        CHECK.same("about(10)", 14, x.about(10));
        for (int left = 13; left >= 0; left--) {
            CHECK.same("undo()", left, x.undo());
        }
        CHECK.same("word(0, 2): the first one was not forgotten", 1, x.word(0, 2));
        CHECK.same("about(3)", 0, x.about(3));
        CHECK.same("about(1)", 12, x.about(1));
    }

    private static void undoneBagNeverBeyond() {
        CHECK.sentence(14, "LETTERS (12 at most): undone to a full bag");
        BagPhrases x = Check.house("+a".repeat(12));
        CHECK.same("take(0)", 11, x.take(0));
        CHECK.same("put(1)", 12, x.put(1));
        CHECK.same("undo()", 1, x.undo());
        CHECK.same("about(1)", 11, x.about(1));
        CHECK.same("undo()", 0, x.undo());
        CHECK.same("about(1)", 12, x.about(1));
        CHECK.same("letter(0, 0)", 12, x.letter(0, 0));
        CHECK.same("put(0)", FULL, x.put(0));
    }

    /** Asked ahead of each doing too, so that an answer of an earlier state would show. */
    private static void phrases(BagPhrases x, String when, long many, int best, int shareAbove) {
        CHECK.same("many(0) " + when, many, x.many(0));
        CHECK.same("many(2) " + when, many, x.many(2));
        CHECK.same("best(0) " + when, best, x.best(0));
        CHECK.same("about(8) " + when, many > 0 ? 2 : -9, x.about(8));
        CHECK.same("share(0, true) " + when, shareAbove, x.share(0, true));
        CHECK.same("hope(0, true) " + when, many > 0 ? 1 : 0, x.hope(0, true));
    }

    private static void phrasesBehindEachDoing() {
        CHECK.sentence(14, "the last one can be undone (PHRASES are those of what is then)");
        BagPhrases x = Check.house("waA1waA2wbB3+a+a^A^B.A.B:AA:AB:BA");
        phrases(x, "at first", 4, 4, 2);
        x.put(1);
        CHECK.same("many(0) behind put", 12, x.many(0));
        CHECK.same("many(2) behind put", 0, x.many(2));
        CHECK.same("about(8) behind put", 3, x.about(8));
        x.undo();
        phrases(x, "behind undo of put", 4, 4, 2);
        x.take(0);
        CHECK.same("many(0) behind take", 2, x.many(0));
        x.put(1);
        phrases(x, "behind take and put", 4, 5, 1);
        x.undo();
        x.undo();
        phrases(x, "behind undo of both", 4, 4, 2);
        x.bar(1);
        phrases(x, "behind bar", 1, 2, 1);
        x.undo();
        phrases(x, "behind undo of bar", 4, 4, 2);
        x.rank(0, 9);
        phrases(x, "behind rank", 4, 18, 2);
        x.undo();
        phrases(x, "behind undo of rank", 4, 4, 2);
        for (int what = 0; what <= 2; what++) {
            x.allow(what, 0, 0);
            phrases(x, "behind allow(" + what + ", 0, 0)", 0, -9, 0);
            x.undo();
            phrases(x, "behind undo of it", 4, 4, 2);
        }
    }

    // ---- promise 32

    private static void keepBounds() {
        CHECK.sentence(32, "They are kept: how many WORDS. UNKNOWN (SLOTS 0 .. 1)");
        int[] wrong = {LEAST, -1, 2, GREATEST};
        for (int words = 0; words <= 10; words += 5) {
            BagPhrases x = Check.house("waA0".repeat(words));
            for (int slot : wrong) {
                CHECK.same("keep(" + slot + ")", UNKNOWN, x.keep(slot));
            }
            CHECK.same("again(0)", LATE, x.again(0));
            CHECK.same("again(1)", LATE, x.again(1));
            CHECK.same("keep(0)", words, x.keep(0));
            CHECK.same("keep(1)", words, x.keep(1));
        }
    }

    private static void keepIsOverwritten() {
        CHECK.sentence(32, "They are kept (a slot that is full is kept anew)");
        BagPhrases x = house();
        x.keep(0);
        x.put(5);
        x.bar(0);
        String kept = setting(x);
        CHECK.same("keep(0), once more", 2, x.keep(0));
        x.undo();
        x.undo();
        CHECK.same("again(0)", 2, x.again(0));
        sameSetting("behind again(0)", kept, x);
    }

    private static void slotsApart() {
        CHECK.sentence(32, "SLOTS 0 .. 1 (each by itself)");
        BagPhrases x = house();
        String first = setting(x);
        x.keep(0);
        for (int sort = 0; sort < SORTS; sort++) {
            doing(x, sort);
        }
        String second = setting(x);
        CHECK.same("again(1), the other one alone is kept", LATE, x.again(1));
        x.keep(1);
        x.again(0);
        sameSetting("slot 0", first, x);
        x.again(1);
        sameSetting("slot 1", second, x);
        x.put(4);
        x.again(1);
        sameSetting("slot 1, gone on from twice", second, x);
        x.again(0);
        sameSetting("slot 0, gone on from twice", first, x);
    }

    private static void keepLeavesDoings() {
        CHECK.sentence(32, "keep .. (no DOINGS when one goes on: keeping itself leaves them)");
        BagPhrases x = house();
        for (int i = 0; i < 14; i++) {
            x.bar(0);
        }
        x.keep(1);
        CHECK.same("about(10)", 14, x.about(10));
        CHECK.same("undo()", 13, x.undo());
        CHECK.same("about(3)", 1, x.about(3));
        x.again(1);
        CHECK.same("about(3), as it was kept", 0, x.about(3));
    }

    // ---- promise 33

    private static void againBounds() {
        CHECK.sentence(33, "how many WORDS. UNKNOWN");
        int[] wrong = {LEAST, -1, 2, GREATEST};
        for (int words = 0; words <= 10; words += 5) {
            BagPhrases x = Check.house("waA0".repeat(words));
            x.keep(0);
            x.keep(1);
            x.put(0);
            for (int slot : wrong) {
                CHECK.same("again(" + slot + ")", UNKNOWN, x.again(slot));
            }
            CHECK.same("about(10)", 1, x.about(10));
            CHECK.same("again(0)", words, x.again(0));
            CHECK.same("again(1)", words, x.again(1));
        }
    }

    private static void againLate() {
        CHECK.sentence(33, "LATE: none were kept");
        BagPhrases x = house();
        x.put(0);
        String before = setting(x);
        CHECK.same("again(0)", LATE, x.again(0));
        CHECK.same("again(1)", LATE, x.again(1));
        x.keep(1);
        CHECK.same("again(0), slot 1 is kept", LATE, x.again(0));
        CHECK.same("about(10)", 1, x.about(10));
        sameSetting("behind what is refused", before, x);
        CHECK.same("again(1)", 2, x.again(1));
        CHECK.same("again(1), once more", 2, x.again(1));
    }

    private static void againAsKept() {
        CHECK.sentence(33, "SLOTS .. keep THE BAG, BARRED WORDS, RANKS, what is ALLOWED");
        for (int sort = 0; sort < SORTS; sort++) {
            BagPhrases x = house();
            String told = setting(x);
            x.keep(0);
            doing(x, sort);
            String done = setting(x);
            x.keep(1);
            x.again(0);
            sameSetting("again(0), sort " + sort, told, x);
            x.again(1);
            sameSetting("again(1), sort " + sort, done, x);
        }
    }

    private static void againNoDoings() {
        CHECK.sentence(33, "(no DOINGS when one goes on)");
        BagPhrases x = house();
        x.put(0);
        x.keep(0);
        for (int i = 0; i < 14; i++) {
            x.bar(0);
        }
        CHECK.same("again(0)", 2, x.again(0));
        CHECK.same("about(10)", 0, x.about(10));
        CHECK.same("undo()", LATE, x.undo());
        CHECK.same("about(1)", 4, x.about(1));
        x.bar(0);
        CHECK.same("undo()", 0, x.undo());
        CHECK.same("undo()", LATE, x.undo());
    }

    private static void phrasesAsKept() {
        CHECK.sentence(33, "They are as they were kept (PHRASES, too)");
        BagPhrases x = Check.house("waA1waA2wbB3+a+a^A^B.A.B:AA:AB:BA");
        x.keep(0);
        x.take(0);
        x.put(1);
        phrases(x, "a b", 4, 5, 1);
        x.keep(1);
        x.again(0);
        phrases(x, "behind again(0)", 4, 4, 2);
        x.again(1);
        phrases(x, "behind again(1)", 4, 5, 1);
    }

    private static void againLeavesTheRest() {
        CHECK.sentence(33, "A ROW stays as it is, whatever is .. kept (SEEN, THE SEED, THE TEXT, too)");
        BagPhrases x = house();
        x.tell(0);
        x.see(0, 0, 1);
        x.seed(3);
        x.write('?');
        x.keep(0);
        x.tell(1);
        x.see(0, 0, 1);
        x.seed(4);
        x.write('?');
        int text = x.about(12);
        CHECK.same("again(0)", 2, x.again(0));
        CHECK.same("about(11)", 2, x.about(11));
        CHECK.same("about(12)", text, x.about(12));
        CHECK.same("about(13)", 2, x.about(13));
        CHECK.same("seed(0)", 4, x.seed(0));
    }
}
