/** Promises 25 to 28: reasons, and what would be. */
public final class ReasonsTest {
    public static void main(String[] args) {
        promise25Outside();
        promise25GapToAnother();
        promise25Overset();
        promise25NoLineOnPage();
        promise25Distance();
        promise25DistanceOfAnother();
        promise25PlacedCountsAsNotPlaced();
        promise25WrongArguments();
        promise26BestPlace();
        promise26NoPlace();
        promise26WrongArguments();
        promise27Troubled();
        promise28RoomFor();
        promise28WrongArguments();
        Check.end();
    }

    private static void promise25Outside() {
        QuoteGrid grid = Check.read("a0 60:50;q0 0 3x6;");
        Check.due("the last column that is inside", grid.refusal(0, 0, 3, 0), 0);
        Check.due("a column too far", grid.refusal(0, 0, 4, 0), 1);
        Check.due("two columns too far", grid.refusal(0, 0, 5, 0), 1);
        Check.due("a row too far", grid.refusal(0, 0, 3, 15), 1);
        grid.setRule(0, 0);
        Check.due("the last row that is inside", grid.refusal(0, 0, 3, 14), 0);
        Check.due("outside is the first reason", grid.refusal(0, 2, 3, 15), 1);
    }

    private static void promise25GapToAnother() {
        QuoteGrid grid = Check.read("a0 60:50;a240 5:0;q0 0 1x1;q0 0 2x2;q1 0 1x1;");
        grid.setRule(0, 0);
        grid.setRule(1, 20);
        grid.place(1, 0, 3, 10);
        Check.due("upon it", grid.refusal(0, 0, 3, 10), 2);
        Check.due("above it", grid.refusal(0, 0, 3, 9), 2);
        Check.due("below it", grid.refusal(0, 0, 4, 12), 2);
        Check.due("two rows above it", grid.refusal(0, 0, 3, 8), 0);
        Check.due("two rows below it", grid.refusal(0, 0, 4, 13), 0);
        Check.due("left of it", grid.refusal(0, 0, 2, 11), 2);
        Check.due("right of it", grid.refusal(0, 0, 5, 11), 2);
        Check.due("two columns left of it", grid.refusal(0, 0, 1, 11), 0);
        Check.due("at its corner", grid.refusal(0, 0, 5, 12), 2);
        grid.setRule(2, 1);
        Check.due("beside it with a gap of 1", grid.refusal(0, 0, 5, 11), 0);
        Check.due("upon it with a gap of 1", grid.refusal(0, 0, 4, 11), 2);
        grid.setRule(2, 10);
        Check.due("nine rows above it with a gap of 10", grid.refusal(0, 0, 3, 1), 2);
        Check.due("ten rows above it with a gap of 10", grid.refusal(0, 0, 3, 0), 0);
        Check.due("a quote on another page is no hindrance", grid.refusal(2, 2, 3, 10), 0);
        Check.due("the gap comes ahead of the missing line", grid.refusal(2, 0, 3, 10), 2);
    }

    private static void promise25Overset() {
        QuoteGrid grid = Check.read("a350 10:0;q0 0 1x1;a0 5:0;");
        grid.setRule(0, 0);
        grid.setRule(1, 20);
        Check.due("a module of the full article", grid.refusal(0, 2, 5, 15), 3);
        Check.due("the module ahead of it", grid.refusal(0, 2, 5, 9), 0);
        grid.setArticle(0, 1, 9);
        Check.due("a module of an article with room for one", grid.refusal(0, 2, 5, 15), 0);
        grid.setArticle(0, 1, 30);
        Check.due("one line more of an article that is overset", grid.refusal(0, 2, 5, 15), 3);
        Check.due("not more, with the quote ahead of it", grid.refusal(0, 2, 5, 9), 0);
        Check.due("overset of another article counts too", Check.read("a350 10;a0 5:0;a240 5:0;q2 0 1x1;")
                .refusal(0, 2, 5, 15), 3);
        Check.due("overset comes ahead of the missing line", Check.read("a350 10;a0 5:0;q1 0 1x1;")
                .refusal(0, 2, 5, 15), 3);
    }

    private static void promise25NoLineOnPage() {
        QuoteGrid grid = Check.read("a0 60:50;q0 0 1x1;");
        Check.due("the second page", grid.refusal(0, 1, 5, 10), 4);
        Check.due("the third page", grid.refusal(0, 2, 5, 10), 4);
        QuoteGrid notice = Check.read("a120 118;a100 30:0;q1 0 1x1;");
        Check.due("a notice is no line", notice.refusal(0, 1, 5, 18), 4);
        notice.setArticle(0, 1, 117);
        Check.due("with a line behind it", notice.refusal(0, 1, 5, 17), 0);
        QuoteGrid pushed = Check.read("a119 1:0;q0 0 1x1;");
        Check.due("its only line is pushed to the next page", pushed.refusal(0, 0, 5, 19), 4);
        pushed.setRule(0, 0);
        Check.due("where it would not be", pushed.refusal(0, 0, 5, 18), 0);
    }

    private static void promise25Distance() {
        QuoteGrid grid = Check.read("a0 100:50;q0 0 1x1;");
        Check.due("three columns away", grid.refusal(0, 0, 5, 10), 0);
        Check.due("two columns away", grid.refusal(0, 0, 4, 10), 5);
        Check.due("three rows below in the next column", grid.refusal(0, 0, 3, 13), 0);
        Check.due("two rows below in the next column", grid.refusal(0, 0, 3, 12), 5);
        Check.due("upon it, so that it goes on below", grid.refusal(0, 0, 2, 10), 5);
        grid.setRule(0, 1);
        Check.due("upon it with a least distance of 1", grid.refusal(0, 0, 2, 10), 0);
        grid.setRule(1, 4);
        Check.due("four rows away", grid.refusal(0, 0, 5, 14), 0);
        Check.due("five rows away", grid.refusal(0, 0, 5, 15), 5);
        Check.due("pushed away by one", grid.refusal(0, 0, 0, 7), 0);
        Check.due("pushed away by one, a row above", grid.refusal(0, 0, 0, 6), 5);
        QuoteGrid overset = Check.read("a350 20:15;q0 0 1x1;");
        Check.due("a sentence that is overset is on no page", overset.refusal(0, 2, 5, 9), 0);
        QuoteGrid elsewhere = Check.read("a110 20:0;q0 0 1x1;");
        Check.due("a sentence on another page", elsewhere.refusal(0, 1, 5, 19), 0);
    }

    private static void promise25DistanceOfAnother() {
        QuoteGrid grid = Check.read("a0 60:10,50;q0 0 1x1;q0 1 1x1;");
        Check.due("place(1, 0, 3, 13)", grid.place(1, 0, 3, 13), 1);
        Check.due("pushing the sentence of the other to it", grid.refusal(0, 0, 0, 0), 6);
        Check.due("pushing nothing", grid.refusal(0, 0, 5, 0), 0);
        grid.setRule(1, 3);
        Check.due("its own distance comes first", grid.refusal(0, 0, 0, 0), 5);
        grid.setRule(1, 12);
        grid.setRule(0, 2);
        Check.due("two away is enough then", grid.refusal(0, 0, 0, 0), 0);
        QuoteGrid far = Check.read("a0 60:45,50;q0 0 1x1;q0 1 1x1;");
        far.setRule(1, 3);
        far.setRule(2, 1);
        Check.due("place(1, 0, 3, 7)", far.place(1, 0, 3, 7), 1);
        Check.due("pushing the sentence of the other too far away", far.refusal(0, 0, 2, 8), 6);
        far.setRule(1, 4);
        Check.due("not too far away then", far.refusal(0, 0, 2, 8), 0);
    }

    private static void promise25PlacedCountsAsNotPlaced() {
        QuoteGrid grid = Check.read("a0 60:50;q0 0 2x2;");
        grid.place(0, 0, 4, 13);
        Check.due("its own place is no hindrance", grid.refusal(0, 0, 4, 13), 0);
        Check.due("nor is it for the place beside", grid.refusal(0, 0, 4, 14), 0);
        Check.due("refusal is no action", grid.count(11), 2);
        Check.due("and moves nothing", grid.quote(0, 6), 13);
        // The lines that its place has overset are not counted as overset without it.
        QuoteGrid full = Check.read("a340 19:0;q0 0 1x1;");
        full.setRule(0, 0);
        full.setRule(1, 20);
        full.place(0, 2, 5, 5);
        full.setArticle(0, 1, 20);
        Check.due("at its place it has made a line overset", full.refusal(0, 2, 5, 5), 3);
        Check.due("elsewhere it would not", full.refusal(0, 2, 4, 5), 0);
    }

    private static void promise25WrongArguments() {
        refusesAsking(1, 0, 0, 0);
        refusesAsking(-1, 0, 0, 0);
        refusesAsking(0, 3, 0, 0);
        refusesAsking(0, -1, 0, 0);
        refusesAsking(0, 0, 6, 0);
        refusesAsking(0, 0, -1, 0);
        refusesAsking(0, 0, 0, 20);
        refusesAsking(0, 0, 0, -1);
        for (int far : Check.FAR_OUT) {
            refusesAsking(far, 0, 0, 0);
            refusesAsking(0, far, 0, 0);
            refusesAsking(0, 0, far, 0);
            refusesAsking(0, 0, 0, far);
        }
    }

    private static void oneQuote(QuoteGrid grid) {
        Check.type(grid, "a0 60:50;q0 0 2x2;");
        grid.load();
    }

    private static void refusesAsking(int quote, int page, int column, int row) {
        Check.refuses("refusal(" + quote + ", " + page + ", " + column + ", " + row + ")", ReasonsTest::oneQuote,
                grid -> grid.refusal(quote, page, column, row), Check.INVALID);
    }

    private static void promise26BestPlace() {
        QuoteGrid grid = Check.read("a0 100:99;q0 0 1x1;q0 0 1x1;q0 0 2x1;");
        grid.setRule(0, 0);
        grid.setRule(1, 20);
        Check.due("the first module of all", grid.bestPlace(0, 0), 0);
        Check.due("with the unrest", grid.bestPlace(0, 1), 1);
        Check.due("the first place on both halves", grid.bestPlace(2, 0), 40);
        Check.due("without unrest", grid.bestPlace(2, 1), 0);
        grid.place(0, 0, 0, 5);
        Check.due("the other half", grid.bestPlace(1, 0), 60);
        Check.due("makes good for it", grid.bestPlace(1, 1), 0);
        Check.due("a placed quote counts as not placed", grid.bestPlace(0, 0), 0);
        Check.due("with the unrest there", grid.bestPlace(0, 1), 1);
        Check.due("bestPlace is no action", grid.count(11), 4);
        Check.due("and moves nothing", grid.quote(0, 6), 5);
        // The quote pushes the sentence to module 100: column 5, row 0.
        QuoteGrid ruled = Check.read("a0 100:99;q0 0 1x1;");
        ruled.setRule(0, 10);
        Check.due("the first row that is far enough", ruled.bestPlace(0, 0), 10);
        ruled.setRule(0, 0);
        ruled.setRule(1, 4);
        Check.due("the first column that is near enough", ruled.bestPlace(0, 0), 20);
    }

    private static void promise26NoPlace() {
        QuoteGrid grid = Check.read("a0 200:0;a0 200:0;q0 0 1x1;");
        Check.due("no module", grid.bestPlace(0, 0), Check.NONE);
        Check.due("no unrest", grid.bestPlace(0, 1), Check.NONE);
    }

    private static void promise26WrongArguments() {
        for (int wrong : new int[] {-1, 2, Integer.MIN_VALUE, Integer.MAX_VALUE}) {
            Check.refuses("bestPlace(" + wrong + ", 0)", ReasonsTest::oneQuote,
                    grid -> grid.bestPlace(wrong, 0), Check.INVALID);
            Check.refuses("bestPlace(0, " + wrong + ")", ReasonsTest::oneQuote,
                    grid -> grid.bestPlace(0, wrong), Check.INVALID);
        }
        Check.refuses("bestPlace(1, 0)", ReasonsTest::oneQuote, grid -> grid.bestPlace(1, 0), Check.INVALID);
    }

    private static void promise27Troubled() {
        QuoteGrid grid = Check.read("a0 60:50,10;q0 0 1x1;q0 1 1x1;q0 1 1x1;");
        grid.place(0, 0, 5, 10);
        grid.place(1, 0, 5, 0);
        Check.due("none", grid.troubled(), 0);
        grid.setRule(2, 10);
        Check.due("ten rows apart", grid.troubled(), 0);
        grid.setRule(0, 4);
        Check.due("one stands too near", grid.troubled(), 2);
        grid.setRule(0, 3);
        grid.setArticle(0, 0, 200);
        Check.due("both without a line", grid.troubled(), 2);
        grid.lift(0);
        Check.due("those that are not placed do not count", grid.troubled(), 1);
        Check.due("troubled is no action", grid.count(11), 5);
    }

    private static void promise28RoomFor() {
        Check.due("an article alone", Check.read("a0 10;").roomFor(0), 200);
        Check.due("near the end", Check.read("a340 5;").roomFor(0), 20);
        Check.due("with no room at all", Check.read("a340 20;").roomFor(0), 20);
        Check.due("overset already", Check.read("a340 33;").roomFor(0), 33);
        Check.due("a full length", Check.read("a340 200;").roomFor(0), 200);
        Check.due("up to another one", Check.read("a300 5;a350 10;").roomFor(0), 50);
        Check.due("the other one with a line overset", Check.read("a300 5;a350 11;").roomFor(0), 50);
        Check.due("the other one behind it", Check.read("a300 5;a350 10;").roomFor(1), 10);
        Check.due("a notice takes room", Check.read("a230 10;a359 1;").roomFor(0), 128);
        QuoteGrid grid = Check.read("a340 5:0;q0 0 3x2;");
        grid.setRule(0, 0);
        grid.place(0, 2, 3, 12);
        Check.due("a quote takes room", grid.roomFor(0), 18);
        Check.due("roomFor is no action", grid.count(11), 3);
        Check.due("and changes nothing", grid.article(0, 1), 5);
    }

    private static void promise28WrongArguments() {
        for (int article : new int[] {-1, 1, 6, Integer.MIN_VALUE, Integer.MAX_VALUE}) {
            Check.refuses("roomFor(" + article + ")", ReasonsTest::oneQuote,
                    grid -> grid.roomFor(article), Check.INVALID);
        }
    }
}
