/** What the tests share: answers compared and counted, and texts written as houses. */
final class Check {
    private int asked = 0;
    private int wrong = 0;
    private String part = "";

    /** Names what is tested from here on, so that a wrong answer can be found. */
    void part(String name) {
        part = name;
    }

    void same(String call, long due, long got) {
        asked++;
        if (due != got) {
            wrong++;
            System.out.println(part + ": " + call + " answered " + got + ", due is " + due);
        }
    }

    void holds(String what, boolean so) {
        same(what, 1, so ? 1 : 0);
    }

    /** Ends the test: exit code 1 if an answer was wrong, or if nothing was asked. */
    void end() {
        System.out.println(asked + " answers, " + wrong + " of them wrong");
        if (wrong > 0 || asked == 0) {
            System.exit(1);
        }
    }

    static void write(BagPhrases phrases, String text) {
        phrases.wipe();
        for (int i = 0; i < text.length(); i++) {
            phrases.write(text.charAt(i));
        }
    }

    static BagPhrases house(String text) {
        BagPhrases phrases = new BagPhrases();
        write(phrases, text);
        if (phrases.house() < 0) {
            throw new IllegalStateException("no house: " + text);
        }
        return phrases;
    }

    static void tell(BagPhrases phrases, int... words) {
        phrases.clear();
        for (int word : words) {
            phrases.tell(word);
        }
    }
}
