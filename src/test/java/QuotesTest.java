/** Promises 6 to 11: quotes and rules. */
public final class QuotesTest {
    private static final String FREE_PAGE = "a0 60:50,10;q0 0 1x1;q0 1 1x1;q0 1 3x2;";

    public static void main(String[] args) {
        promise6AddQuote();
        promise7RemoveQuote();
        promise8Place();
        promise8PlaceIsRefused();
        promise9Lift();
        promise10FloatAll();
        promise10FloatAllWithoutPlaces();
        promise11SetRule();
        Check.end();
    }

    private static void promise6AddQuote() {
        QuoteGrid grid = Check.read("a0 10:1,2;a40 20:3;");
        Check.due("addQuote(0, 1, 1, 1)", grid.addQuote(0, 1, 1, 1), 0);
        Check.due("addQuote(1, 0, 3, 6)", grid.addQuote(1, 0, 3, 6), 1);
        int[] properties = {1, 0, 3, 6, -99, -99, -99, -99};
        for (int what = 0; what < properties.length; what++) {
            Check.due("quote(1, " + what + ")", grid.quote(1, what), properties[what]);
        }
        Check.due("addQuote is an action", grid.count(11), 3);
        Check.due("it is not placed", grid.count(2), 0);
        for (int i = 2; i < 8; i++) {
            Check.due("addQuote as number " + i, grid.addQuote(0, 0, 2, 2), i);
        }
        grid.undo();
        Check.due("undo takes the eighth away", grid.count(1), 7);
        refusesQuote(2, 0, 1, 1, Check.INVALID);
        refusesQuote(-1, 0, 1, 1, Check.INVALID);
        refusesQuote(0, -1, 1, 1, Check.INVALID);
        refusesQuote(0, 2, 1, 1, Check.INVALID);
        refusesQuote(1, 1, 1, 1, Check.INVALID);
        refusesQuote(0, 0, 0, 1, Check.INVALID);
        refusesQuote(0, 0, 4, 1, Check.INVALID);
        refusesQuote(0, 0, 1, 0, Check.INVALID);
        refusesQuote(0, 0, 1, 7, Check.INVALID);
        refusesQuote(0, 0, 3, 6, Check.FULL);
        for (int far : Check.FAR_OUT) {
            refusesQuote(far, 0, 1, 1, Check.INVALID);
            refusesQuote(0, far, 1, 1, Check.INVALID);
            refusesQuote(0, 0, far, 1, Check.INVALID);
            refusesQuote(0, 0, 1, far, Check.INVALID);
        }
    }

    private static void refusesQuote(int article, int sentence, int width, int height, int want) {
        Check.refuses("a ninth addQuote(" + article + ", " + sentence + ", " + width + ", " + height + ")", grid -> {
            Check.type(grid, "a0 10:1,2;a40 20:3;");
            grid.load();
            for (int i = 0; i < 8; i++) {
                grid.addQuote(0, 0, 1, 1);
            }
        }, grid -> grid.addQuote(article, sentence, width, height), want);
    }

    private static void promise7RemoveQuote() {
        QuoteGrid grid = Check.read(FREE_PAGE);
        grid.place(1, 0, 5, 0);
        grid.place(2, 0, 3, 4);
        Check.due("removeQuote(0)", grid.removeQuote(0), 2);
        Check.due("the quote behind it has a smaller number", grid.module(100), 21);
        Check.due("the last one too", grid.module(64), 22);
        Check.due("its width", grid.quote(1, 2), 3);
        Check.due("removeQuote(1)", grid.removeQuote(1), 1);
        Check.due("its modules are free", grid.module(64), 0);
        Check.due("removeQuote is an action", grid.count(11), 5);
        grid.undo();
        Check.due("undo brings it back to its place", grid.module(64), 22);
        grid.removeQuote(1);
        grid.setArticle(0, 0, 240);
        Check.due("no trouble is left of it", grid.troubled(), 1);
        grid.undo();
        Check.due("no hindrance", grid.refusal(0, 0, 3, 4), 0);
        Check.due("no unrest", grid.count(9), 1);
        Check.due("a quote in its stead", grid.addQuote(0, 1, 3, 2), 1);
        Check.due("is not placed", grid.quote(1, 4), Check.NONE);
        Check.due("its modules stay free", grid.module(64), 0);
        for (int quote : new int[] {-1, 3, 8, Integer.MIN_VALUE, Integer.MAX_VALUE}) {
            Check.refuses("removeQuote(" + quote + ")", QuotesTest::placedOnFreePage,
                    g -> g.removeQuote(quote), Check.INVALID);
        }
    }

    private static void placedOnFreePage(QuoteGrid grid) {
        Check.type(grid, FREE_PAGE);
        grid.load();
        grid.place(1, 0, 5, 0);
    }

    private static void promise8Place() {
        QuoteGrid grid = Check.read(FREE_PAGE);
        Check.due("place(0, 0, 5, 10)", grid.place(0, 0, 5, 10), 1);
        Check.due("its module", grid.module(110), 21);
        Check.due("place(2, 0, 3, 0), three columns on the right", grid.place(2, 0, 3, 0), 7);
        Check.due("its last module", grid.module(101), 23);
        Check.due("place(2, 0, 1, 0), one column on the right", grid.place(2, 0, 1, 0), 1);
        Check.due("it has left its old modules", grid.module(100), 0);
        Check.due("place is an action", grid.count(11), 4);
        Check.due("placing where it stands", grid.place(0, 0, 5, 10), 1);
        Check.due("is an action too", grid.count(11), 5);
        Check.due("the quotes that are placed", grid.count(2), 2);
        grid.undo();
        grid.undo();
        Check.due("undo brings it to its previous place", grid.module(100), 23);
    }

    private static void promise8PlaceIsRefused() {
        refusesPlace(0, 0, 3, 10, Check.ILLEGAL);
        refusesPlace(2, 0, 5, 0, Check.ILLEGAL);
        refusesPlace(0, 1, 0, 0, Check.ILLEGAL);
        refusesPlace(3, 0, 5, 10, Check.INVALID);
        refusesPlace(-1, 0, 5, 10, Check.INVALID);
        refusesPlace(0, 3, 5, 10, Check.INVALID);
        refusesPlace(0, -1, 5, 10, Check.INVALID);
        refusesPlace(0, 0, 6, 10, Check.INVALID);
        refusesPlace(0, 0, -1, 10, Check.INVALID);
        refusesPlace(0, 0, 5, 20, Check.INVALID);
        refusesPlace(0, 0, 5, -1, Check.INVALID);
        for (int far : Check.FAR_OUT) {
            refusesPlace(far, 0, 5, 10, Check.INVALID);
            refusesPlace(0, far, 5, 10, Check.INVALID);
            refusesPlace(0, 0, far, 10, Check.INVALID);
            refusesPlace(0, 0, 5, far, Check.INVALID);
        }
    }

    private static void refusesPlace(int quote, int page, int column, int row, int want) {
        Check.refuses("place(" + quote + ", " + page + ", " + column + ", " + row + ")",
                QuotesTest::placedOnFreePage, grid -> grid.place(quote, page, column, row), want);
    }

    private static void promise9Lift() {
        QuoteGrid grid = Check.read(FREE_PAGE);
        grid.place(0, 0, 5, 10);
        grid.place(2, 0, 1, 0);
        Check.due("the article goes around the quote", grid.module(20), 23);
        Check.due("lift(2)", grid.lift(2), 1);
        Check.due("the article takes the modules back", grid.module(20), 1);
        Check.due("its page", grid.quote(2, 4), Check.NONE);
        Check.due("the quotes stay", grid.count(1), 3);
        Check.due("lift is an action", grid.count(11), 4);
        Check.due("lift(0)", grid.lift(0), 0);
        grid.undo();
        Check.due("undo places it again", grid.quote(0, 6), 10);
        refusesLift(0, Check.ILLEGAL);
        refusesLift(2, Check.ILLEGAL);
        refusesLift(3, Check.INVALID);
        refusesLift(-1, Check.INVALID);
        for (int far : Check.FAR_OUT) {
            refusesLift(far, Check.INVALID);
        }
    }

    private static void refusesLift(int quote, int want) {
        Check.refuses("lift(" + quote + ")", QuotesTest::placedOnFreePage, grid -> grid.lift(quote), want);
    }

    private static void promise10FloatAll() {
        QuoteGrid grid = Check.read("a0 100:99;q0 0 1x1;q0 0 1x1;q0 0 2x1;");
        grid.setRule(0, 0);
        grid.setRule(1, 20);
        Check.due("floatAll()", grid.floatAll(), 3);
        // With 0 at module 0 the unrest is 1, so 1 goes to the right half; 2 then stands on both halves.
        int[][] places = {{0, 0}, {3, 0}, {2, 2}};
        for (int quote = 0; quote < places.length; quote++) {
            Check.due("the page of " + quote, grid.quote(quote, 4), 0);
            Check.due("the column of " + quote, grid.quote(quote, 5), places[quote][0]);
            Check.due("the row of " + quote, grid.quote(quote, 6), places[quote][1]);
        }
        Check.due("the unrest", grid.count(9), 0);
        Check.due("floatAll is one action", grid.count(11), 4);
        Check.due("floatAll() with nothing to float", grid.floatAll(), 0);
        Check.due("is an action too", grid.count(11), 5);
        grid.undo();
        grid.undo();
        Check.due("undo lifts all of them", grid.count(2), 0);
        grid.place(1, 0, 0, 0);
        Check.due("floatAll() of those that are not placed", grid.floatAll(), 2);
        Check.due("the placed one stays", grid.module(0), 22);
        Check.due("and 0 goes to the other half", grid.module(60), 21);
        Check.due("floatAll() of an empty object", new QuoteGrid().floatAll(), 0);
    }

    private static void promise10FloatAllWithoutPlaces() {
        QuoteGrid grid = Check.read("a0 200:0;a0 200:0;a358 2:0;q0 0 1x1;q2 0 1x1;");
        Check.due("floatAll() where all is full", grid.floatAll(), 0);
        Check.due("none is placed", grid.count(2), 0);
        Check.due("it is an action", grid.count(11), 2);
    }

    private static void promise11SetRule() {
        QuoteGrid grid = new QuoteGrid();
        Check.due("setRule(0, 10)", grid.setRule(0, 10), 3);
        Check.due("setRule(1, 10)", grid.setRule(1, 10), 12);
        Check.due("setRule(1, 20)", grid.setRule(1, 20), 10);
        Check.due("setRule(0, 0)", grid.setRule(0, 0), 10);
        Check.due("setRule(1, 0)", grid.setRule(1, 0), 20);
        Check.due("setRule(2, 1)", grid.setRule(2, 1), 2);
        Check.due("setRule(2, 10)", grid.setRule(2, 10), 1);
        Check.due("the least distance", grid.count(3), 0);
        Check.due("the greatest distance", grid.count(4), 0);
        Check.due("the gap", grid.count(5), 10);
        Check.due("setRule is an action", grid.count(11), 5);
        grid.undo();
        Check.due("undo brings the gap back", grid.count(5), 1);
        QuoteGrid fresh = new QuoteGrid();
        Check.due("a least distance above 10", fresh.setRule(0, 11), Check.INVALID);
        fresh.setRule(1, 5);
        Check.due("a least distance above the greatest one", fresh.setRule(0, 6), Check.INVALID);
        Check.due("a least distance that is the greatest one", fresh.setRule(0, 5), 3);
        Check.due("a greatest distance below the least one", fresh.setRule(1, 4), Check.INVALID);
        refusesRule(-1, 5);
        refusesRule(3, 5);
        refusesRule(0, -1);
        refusesRule(0, 11);
        refusesRule(0, 9);
        refusesRule(1, 21);
        refusesRule(1, -1);
        refusesRule(1, 2);
        refusesRule(2, 0);
        refusesRule(2, 11);
        for (int far : Check.FAR_OUT) {
            refusesRule(far, 5);
            refusesRule(0, far);
            refusesRule(1, far);
            refusesRule(2, far);
        }
    }

    private static void refusesRule(int what, int value) {
        Check.refuses("setRule(" + what + ", " + value + ") with 3, 8, 2", grid -> grid.setRule(1, 8),
                grid -> grid.setRule(what, value), Check.INVALID);
    }
}
