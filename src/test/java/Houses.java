/** Houses at the document's bounds, and the signs of their parts. */
final class Houses {
    /** All 16 pairs, 48 signs. */
    static final String ALL_PAIRS = ":AA:AB:AC:AD:BA:BB:BC:BD:CA:CB:CC:CD:DA:DB:DC:DD";

    /** Whatever is put together by kinds is let. */
    static final String ALL_LET = "^A^B^C^D.A.B.C.D" + ALL_PAIRS;

    /** The longest house there is, 178 signs: ten words of six letters, a bag of twelve, all that can be let. */
    static final String LONGEST = "wabcdefA0".repeat(10) + "+a".repeat(12) + ALL_LET;

    /** Ten words of one letter each, all a, by ranks 0 .. 9, and a bag of so many a. */
    static String tenTwins(int letters) {
        return twins(10, letters);
    }

    static String twins(int words, int letters) {
        StringBuilder text = new StringBuilder();
        for (int word = 0; word < words; word++) {
            text.append("waA").append(word);
        }
        return text.append("+a".repeat(letters)).append("^A.A:AA").toString();
    }

    private Houses() {
    }
}
