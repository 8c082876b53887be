/** What the tests share: answers compared and counted, and texts written as houses. */
final class Check {
    private int asked = 0;
    private int wrong = 0;
    private String part = "";
    private final boolean[] promised = new boolean[34];

    /** Names what is tested from here on, so that a wrong answer can be found. */
    void part(String name) {
        part = name;
    }

    /** Begins the test of one sentence of the document, in its own words, and says whose promise it is. */
    void sentence(int promise, String words) {
        promised[promise] = true;
        part("promise " + promise + ": " + words);
    }

    /** To be asked behind the sentences: a promise that none of them belongs to is a fault of the test. */
    void covered(int first, int last) {
        part("sentences");
        for (int promise = first; promise <= last; promise++) {
            holds("one of promise " + promise, promised[promise]);
        }
    }

    void same(String call, long due, long got) {
        asked++;
        if (due != got) {
            wrong++;
            System.out.println(part + ": " + call + " answered " + got + ", due is " + due);
        }
    }

    void holds(String what, boolean so) {
        same(what, 1, so ? 1 : 0);
    }

    /** Ends the test: exit code 1 if an answer was wrong, or if nothing was asked. */
    void end() {
        System.out.println(asked + " answers, " + wrong + " of them wrong");
        if (wrong > 0 || asked == 0) {
            System.exit(1);
        }
    }

    static void write(BagPhrases phrases, String text) {
        phrases.wipe();
        for (int i = 0; i < text.length(); i++) {
            phrases.write(text.charAt(i));
        }
    }

    static BagPhrases house(String text) {
        BagPhrases phrases = new BagPhrases();
        write(phrases, text);
        if (phrases.house() < 0) {
            throw new IllegalStateException("no house: " + text);
        }
        return phrases;
    }

    /** Asks the same of a row of calls' answers at once. */
    void all(String calls, long due, long... got) {
        for (int i = 0; i < got.length; i++) {
            same(calls + ", the answer at " + i, due, got[i]);
        }
    }

    static void tell(BagPhrases phrases, int... words) {
        phrases.clear();
        for (int word : words) {
            phrases.tell(word);
        }
    }
}
