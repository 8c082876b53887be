/** What README.md says that the calls answer, in its order. */
public final class ReadmeTest {
    private static final Check CHECK = new Check();

    public static void main(String[] args) {
        CHECK.part("README.md");
        BagPhrases x = new BagPhrases();
        for (char sign : "waA1wbA2+a+b^A.A:AA".toCharArray()) {
            x.write(sign);
        }
        CHECK.same("fault()", BagPhrases.NONE, x.fault());
        CHECK.same("house()", 2, x.house());
        CHECK.same("many(0)", 2, x.many(0));
        CHECK.same("phrase(1, 1)", 1, x.phrase(1, 1));
        CHECK.same("best(0)", 3, x.best(0));
        CHECK.same("tell(0)", 1, x.tell(0));
        CHECK.same("why(0)", 4, x.why(0));
        CHECK.same("why(2)", 1, x.why(2));
        CHECK.same("tell(1)", 2, x.tell(1));
        CHECK.same("number()", 0, x.number());
        CHECK.same("put(0)", 3, x.put(0));
        CHECK.same("many(0)", 3, x.many(0));
        CHECK.same("nearly(1)", 3, x.nearly(1));
        CHECK.same("undo()", 0, x.undo());
        CHECK.same("share(0, true)", 1, x.share(0, true));
        CHECK.same("share(0, false)", 1, x.share(0, false));
        CHECK.same("hope(5, true)", 1, x.hope(5, true));
        CHECK.same("hope(5, false)", 4, x.hope(5, false));
        CHECK.end();
    }
}
