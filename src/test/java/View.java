import java.util.function.Supplier;

/**
 * All that can be told of an object, in one text: what the calls answer, what is undone, what was kept. It takes
 * fewer than 300 calls, so that an object that was used before it is not used beyond its 512 calls.
 */
final class View {
    private final StringBuilder told = new StringBuilder();
    private final BagPhrases x;
    private final int words;

    private View(BagPhrases x) {
        this.x = x;
        this.words = x.about(0);
    }

    /** The object is used up by it: undoing, going on from slots and reading its text again show what they held. */
    static String of(Supplier<BagPhrases> maker) {
        View view = new View(maker.get());
        view.all();
        return view.told.toString();
    }

    private void all() {
        say("fault", x.fault());
        for (int what = 0; what <= 13; what++) {
            say("about" + what, x.about(what));
        }
        words();
        kinds();
        phrases();
        undone();
        row();
        for (int slot = 0; slot <= 1; slot++) {
            say("again", x.again(slot));
            setting();
        }
        say("house", x.house());
        setting();
        say("seen", x.unsee());
        say("text", x.wipe());
    }

    private void say(String name, long value) {
        told.append(name).append(' ').append(value).append('\n');
    }

    private void words() {
        for (int word = 0; word < words; word++) {
            say("rank of " + word, x.word(word, 2));
            say("barred " + word, x.word(word, 3));
            say("to be made " + word, x.word(word, 6));
            say("having" + word, x.having(word));
        }
    }

    private void kinds() {
        for (int kind = 0; kind <= 3; kind++) {
            say("follow", x.letter(kind, 2));
        }
    }

    private void phrases() {
        for (int k = 0; k <= 3; k++) {
            say("best" + k, x.best(k));
            say("why" + k, x.why(k));
        }
        long last = x.many(0) - 1;
        say("many", last + 1);
        say("first of the last", x.phrase(last, 1));
        say("worth of the last", x.phrase(last, 13));
        say("number", x.number());
        say("wanting", x.nearly(0));
        say("too many", x.nearly(1));
        say("left", x.left(0));
        say("least left", x.left(1));
        say("share", x.share(0, true));
        say("hope", x.hope(3, true));
        long seed = x.seed(0);
        say("seed", seed);
        x.seed(seed);
    }

    /** The row's words show in where it is no phrase, as they are barred one by one. */
    private void row() {
        for (int word = 0; word < words; word++) {
            boolean free = x.word(word, 3) == 0;
            if (free) {
                x.bar(word);
            }
            say("row with " + word + " barred", x.why(1));
            if (free) {
                x.undo();
            }
        }
    }

    private void undone() {
        for (int left = x.about(10); left > 0; left--) {
            say("undo", x.undo());
            say("barred", x.about(3));
            say("letters", x.about(1));
            say("rank", x.word(0, 2));
        }
        setting();
    }

    private void setting() {
        for (int letter = 0; letter < 8; letter++) {
            say("bag", x.letter(letter, 0));
        }
        say("barred", x.about(3));
        say("begin", x.about(4));
        say("end", x.about(5));
        say("rank", x.word(0, 2));
        kinds();
    }
}
