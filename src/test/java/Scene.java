/** The objects that the tests of edges start from. */
final class Scene {
    static final int[] STARTS = {7, 40, 90, 130, 200, 300};
    static final int[] LENGTHS = {5, 6, 7, 8, 9, 10};

    private Scene() {
    }

    /**
     * Something of everything: two articles, the second one overset by 10 lines; quote 0 at page 0,
     * column 5, row 10, quote 1 at page 2, column 0, row 9, quote 2 not placed; a snapshot in slot 1,
     * a full history, and a text with an error.
     */
    static void rich(QuoteGrid grid) {
        fourStates(grid);
        grid.setRule(2, 3);
        grid.setRule(0, 2);
        Check.type(grid, "a7 7;q");
    }

    /** What rich() begins with, so that the history has room for one more state, and there is no text. */
    static void fourStates(QuoteGrid grid) {
        Check.load(grid, "a0 60:50,10;a340 30:9,19,20;q0 0 1x1;q1 0 2x3;q0 1 1x2;");
        grid.place(0, 0, 5, 10);
        grid.take(1);
        grid.place(1, 2, 0, 9);
    }

    /** Six articles that differ, two sentences in each, and no quotes. */
    static void sixArticles(QuoteGrid grid) {
        for (int i = 0; i < 6; i++) {
            grid.addArticle(STARTS[i], LENGTHS[i]);
            grid.addSentence(i, i % 5);
            grid.addSentence(i, 0);
        }
    }

    /** Two articles, of which the first has eight sentences, and the second one has one. */
    static void eightSentences(QuoteGrid grid) {
        Check.load(grid, "a0 10:9,8,7,6,5,4,3,3;a40 20:19;");
    }

    /** Three articles with three sentences each, and eight quotes that differ in their sizes. */
    static void eightQuotes(QuoteGrid grid) {
        Check.load(grid, "a0 10:1,2,3;a40 20:4,5,6;a80 30:7,8,9;q0 0 1x1;q1 1 1x2;q2 2 1x3;q0 1 1x4;q1 2 1x5;");
        grid.addQuote(2, 0, 1, 6);
        grid.addQuote(0, 2, 2, 1);
        grid.addQuote(1, 0, 2, 2);
    }

    /** An article with lines on all three pages (100 to 119, 121 to 239, 241 to 301) and a small quote. */
    static void allPages(QuoteGrid grid) {
        Check.load(grid, "a100 200:0;q0 0 1x1;");
        anyDistance(grid);
    }

    /** Eight small quotes of one article on all pages, which nothing but each other keeps from their places. */
    static void eightToPlace(QuoteGrid grid) {
        Check.load(grid, "a100 200:0;" + "q0 0 1x1;".repeat(8));
        anyDistance(grid);
    }

    static void eightPlaced(QuoteGrid grid) {
        eightToPlace(grid);
        grid.floatAll();
    }

    /** Rules that refuse no distance from a sentence. */
    static void anyDistance(QuoteGrid grid) {
        grid.setRule(0, 0);
        grid.setRule(1, 20);
    }

    static QuoteGrid readAtAnyDistance(String text) {
        QuoteGrid grid = Check.read(text);
        anyDistance(grid);
        return grid;
    }
}
