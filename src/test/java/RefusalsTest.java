/** Section 4: whatever is told, no call throws, each refuses by its own word, and what is refused changes nothing. */
public final class RefusalsTest {
    private static final Check CHECK = new Check();
    private static final int[] WILD = {Integer.MIN_VALUE, -1000, -9, -2, 256, 1000, 1 << 20, Integer.MAX_VALUE};

    public static void main(String[] args) {
        CHECK.part("constants");
        CHECK.same("UNKNOWN", -1, BagPhrases.UNKNOWN);
        CHECK.same("BAD", -2, BagPhrases.BAD);
        CHECK.same("LATE", -3, BagPhrases.LATE);
        CHECK.same("FULL", -4, BagPhrases.FULL);
        CHECK.same("NONE", -9, BagPhrases.NONE);
        BagPhrases empty = new BagPhrases();
        BagPhrases full = Check.house("waA2wbA3wabB9wccC0+a+b+a^A^B.A.B:AA:AB:BA");
        full.write('w');
        full.put(0);
        full.bar(1);
        full.tell(2);
        full.tell(0);
        full.see(0, 2, 1);
        full.seed(11);
        refusing("empty", empty);
        refusing("full", full);
        CHECK.end();
    }

    private static void refusing(String name, BagPhrases x) {
        String before = view(x);
        for (int v : WILD) {
            CHECK.part(name + ", told " + v);
            CHECK.same("write", -2, x.write(v));
            CHECK.same("about", -2, x.about(v));
            CHECK.same("word", -1, x.word(v, v));
            CHECK.same("letter", -1, x.letter(v, v));
            CHECK.same("letter", -2, x.letter(0, v));
            CHECK.same("put", -1, x.put(v));
            CHECK.same("take", -1, x.take(v));
            CHECK.same("bar", -1, x.bar(v));
            CHECK.same("rank", -1, x.rank(v, v));
            CHECK.same("allow", -1, x.allow(v, v, v));
            CHECK.same("allow", -1, x.allow(0, 0, v));
            CHECK.same("allow", -2, x.allow(v, 0, 0));
            CHECK.same("many", -2, x.many(v));
            CHECK.same("having", -1, x.having(v));
            CHECK.same("best", -2, x.best(v));
            CHECK.same("phrase", -1, x.phrase(v, v));
            CHECK.same("phrase", -1, x.phrase((long) v << 32, 0));
            CHECK.same("tell", -1, x.tell(v));
            CHECK.same("why", -2, x.why(v));
            CHECK.same("nearly", -2, x.nearly(v));
            CHECK.same("judge", -2, x.judge(v, 0));
            CHECK.same("judge", -2, x.judge(1, (long) v << 32));
            CHECK.same("see", -2, x.see(v, 0, 0));
            CHECK.same("see", -2, x.see(0, v, 0));
            CHECK.same("see", -2, x.see(0, 0, v));
            CHECK.same("left", -2, x.left(v));
            CHECK.same("share", -1, x.share(v, true));
            CHECK.same("hope", -2, x.hope(v, false));
            CHECK.same("drawn", -2, x.drawn(v));
            CHECK.same("keep", -1, x.keep(v));
            CHECK.same("again", -1, x.again(v));
        }
        CHECK.part(name + ", behind it all");
        CHECK.same("again(0)", -3, x.again(0));
        CHECK.holds("what is refused changes nothing", before.equals(view(x)));
    }

    private static String view(BagPhrases x) {
        StringBuilder view = new StringBuilder();
        for (int what = 0; what <= 13; what++) {
            view.append(x.about(what)).append(' ');
        }
        for (int word = 0; word < x.about(0); word++) {
            for (int what = 0; what <= 7; what++) {
                view.append(x.word(word, what)).append(' ');
            }
        }
        for (int letter = 0; letter < 8; letter++) {
            view.append(x.letter(letter, 0)).append(' ').append(x.letter(letter, 2)).append(' ');
        }
        long seed = x.seed(0);
        x.seed(seed);
        view.append(seed).append(' ').append(x.fault()).append(' ').append(x.left(0)).append(' ').append(x.why(0));
        return view.append(' ').append(x.many(0)).append(' ').append(x.best(0)).append(' ').append(x.number()).toString();
    }
}
