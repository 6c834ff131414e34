import java.util.function.Consumer;

/** The edges of promises 6 to 11: quotes and rules. */
final class QuoteEdges {
    private static final Consumer<QuoteGrid> EMPTY = grid -> { };

    private QuoteEdges() {
    }

    static void run() {
        promise6();
        promise6Errors();
        promise7();
        promise8();
        promise8Errors();
        promise9();
        promise10();
        promise11();
    }

    private static void promise6() {
        String section = "Promise 6";
        Doc.about(section, "Adds a quote that is not placed.");
        QuoteGrid grid = Check.made(Scene::rich);
        grid.removeQuote(2);
        grid.removeQuote(1);
        Check.due("in the stead of one that was placed", grid.addQuote(1, 0, 2, 3), 1);
        for (int what = 4; what <= 7; what++) {
            Check.due("quote(1, " + what + ")", grid.quote(1, what), Check.NONE);
        }
        Check.due("the placed ones", grid.count(2), 1);
        Doc.about(section, "This is an action.");
        Check.isAction("addQuote(0, 0, 1, 1)", Scene::fourStates, asked -> asked.addQuote(0, 0, 1, 1));
        Doc.about(section, "- `article`: an article");
        Check.edges("addQuote(article, 0, 1, 1) of two", Scene::rich,
                (asked, article) -> asked.addQuote(article, 0, 1, 1), 0, 3, 1, 3);
        Check.edges("addQuote(article, 1, 1, 1) of six", Scene::sixArticles,
                (asked, article) -> asked.addQuote(article, 1, 1, 1), 0, 0, 5, 0);
        Doc.about(section, "- `sentence`: a sentence of it");
        Check.edges("addQuote(0, sentence, 1, 1)", Scene::rich,
                (asked, sentence) -> asked.addQuote(0, sentence, 1, 1), 0, 3, 1, 3);
        Check.edges("addQuote(1, sentence, 1, 1)", Scene::rich,
                (asked, sentence) -> asked.addQuote(1, sentence, 1, 1), 0, 3, 2, 3);
        Check.edges("addQuote(0, sentence, 1, 1) of eight", Scene::eightSentences,
                (asked, sentence) -> asked.addQuote(0, sentence, 1, 1), 0, 0, 7, 0);
        Check.edges("addQuote(1, sentence, 1, 1) of one", Scene::eightSentences,
                (asked, sentence) -> asked.addQuote(1, sentence, 1, 1), 0, 0, 0, 0);
        Doc.about(section, "- `width`: 1 to 3");
        Check.edges("addQuote(0, 0, width, 1)", Scene::rich, (asked, width) -> asked.addQuote(0, 0, width, 1),
                1, 3, 3, 3);
        Doc.about(section, "- `height`: 1 to 6");
        Check.edges("addQuote(0, 0, 1, height)", Scene::rich, (asked, height) -> asked.addQuote(0, 0, 1, height),
                1, 3, 6, 3);
        Doc.about(section, "Returns its number;");
        QuoteGrid counted = Check.read("a0 10:1;");
        for (int number = 0; number < 8; number++) {
            Check.due("addQuote(0, 0, 1, 1)", counted.addQuote(0, 0, 1, 1), number);
        }
    }

    private static void promise6Errors() {
        String section = "Promise 6";
        Doc.about(section, "INVALID_ARGUMENT if an argument is out of range;");
        Check.refuses("addQuote(0, 0, 1, 1) of no article", EMPTY, fresh -> fresh.addQuote(0, 0, 1, 1), Check.INVALID);
        Check.refuses("addQuote(0, 0, 1, 1) of no sentence", fresh -> fresh.addArticle(0, 5),
                fresh -> fresh.addQuote(0, 0, 1, 1), Check.INVALID);
        Check.refusesBeside("a ninth one, addQuote(article, 0, 1, 1)", Scene::eightQuotes,
                (asked, article) -> asked.addQuote(article, 0, 1, 1), 0, 2);
        Check.refusesBeside("a ninth one, addQuote(0, sentence, 1, 1)", Scene::eightQuotes,
                (asked, sentence) -> asked.addQuote(0, sentence, 1, 1), 0, 2);
        Check.refusesBeside("a ninth one, addQuote(0, 0, width, 1)", Scene::eightQuotes,
                (asked, width) -> asked.addQuote(0, 0, width, 1), 1, 3);
        Check.refusesBeside("a ninth one, addQuote(0, 0, 1, height)", Scene::eightQuotes,
                (asked, height) -> asked.addQuote(0, 0, 1, height), 1, 6);
        Doc.about(section, "CAPACITY_EXCEEDED if there are 8 quotes.");
        Check.refuses("a ninth one", Scene::eightQuotes, full -> full.addQuote(0, 0, 1, 1), Check.FULL);
        Check.refuses("a ninth one, the largest", Scene::eightQuotes, full -> full.addQuote(2, 2, 3, 6), Check.FULL);
        QuoteGrid fewer = Check.made(Scene::eightQuotes);
        fewer.removeQuote(7);
        Check.due("an eighth one", fewer.addQuote(0, 0, 1, 1), 7);
    }

    private static void promise7() {
        String section = "Promise 7";
        Doc.about(section, "Removes a quote.");
        QuoteGrid grid = Check.made(Scene::rich);
        Check.due("removeQuote(0), placed", grid.removeQuote(0), 2);
        Check.due("its module", grid.module(110), 0);
        Check.due("the next one has its number", grid.module(249), 21);
        Check.due("and its properties", grid.quote(0, 3), 3);
        Check.due("the unrest", grid.count(9), 6);
        Check.due("removeQuote(1), not placed", grid.removeQuote(1), 1);
        Check.due("the one ahead of it stays", grid.module(249), 21);
        Doc.about(section, "This is an action.");
        Check.isAction("removeQuote(0)", Scene::fourStates, asked -> asked.removeQuote(0));
        Doc.about(section, "- `quote`: a quote");
        Check.edges("removeQuote(quote) of three", Scene::rich, QuoteGrid::removeQuote, 0, 2, 2, 2);
        Check.edges("removeQuote(quote) of eight", Scene::eightQuotes, QuoteGrid::removeQuote, 0, 7, 7, 7);
        Doc.about(section, "Returns the number of quotes then;");
        QuoteGrid counted = Check.made(Scene::eightQuotes);
        for (int left = 7; left >= 0; left--) {
            Check.due("removeQuote(0)", counted.removeQuote(0), left);
            Check.due("count(1)", counted.count(1), left);
        }
        Doc.about(section, "INVALID_ARGUMENT if there is no such quote.");
        Check.due("behind the last one", counted.removeQuote(0), Check.INVALID);
        Check.refuses("removeQuote(0) of none", Scene::sixArticles, none -> none.removeQuote(0), Check.INVALID);
    }

    private static void promise8() {
        String section = "Promise 8";
        Doc.about(section, "Places a quote, also one that is placed elsewhere.");
        QuoteGrid grid = Check.made(Scene::allPages);
        Check.due("place(0, 0, 0, 0)", grid.place(0, 0, 0, 0), 1);
        Check.due("place(0, 2, 5, 19)", grid.place(0, 2, 5, 19), 1);
        Check.due("it has left the first place", grid.module(0), 0);
        Check.due("it has come to the last one", grid.module(359), 21);
        Check.due("place(0, 2, 5, 19) again", grid.place(0, 2, 5, 19), 1);
        Check.due("there is one placed quote", grid.count(2), 1);
        Doc.about(section, "This is an action.");
        Check.isAction("place(2, 0, 3, 15)", Scene::fourStates, asked -> asked.place(2, 0, 3, 15));
        Check.isAction("place(1, 2, 0, 9), where it is", Scene::fourStates, asked -> asked.place(1, 2, 0, 9));
        Doc.about(section, "- `quote`: a quote");
        Check.edges("place(quote, 0, 0, 15)", Scene::eightToPlace, (asked, quote) -> asked.place(quote, 0, 0, 15),
                0, 1, 7, 1);
        Doc.about(section, "- `page`: 0 to 2");
        Check.edges("place(0, page, 2, 7)", Scene::allPages, (asked, page) -> asked.place(0, page, 2, 7), 0, 1, 2, 1);
        Doc.about(section, "- `column`: 0 to 5");
        Check.edges("place(0, 1, column, 7)", Scene::allPages, (asked, column) -> asked.place(0, 1, column, 7),
                0, 1, 5, 1);
        Doc.about(section, "- `row`: 0 to 19");
        Check.edges("place(0, 1, 2, row)", Scene::allPages, (asked, row) -> asked.place(0, 1, 2, row), 0, 1, 19, 1);
        Doc.about(section, "Returns the unrest then;");
        QuoteGrid sums = Scene.readAtAnyDistance("a100 200:0;q0 0 3x6;q0 0 3x6;q0 0 2x2;");
        Check.due("a large one on the left", sums.place(0, 0, 0, 0), 18);
        Check.due("another one on another page", sums.place(1, 1, 3, 0), 36);
        Check.due("on the right of the same page", sums.place(1, 0, 3, 8), 0);
        Check.due("a small one in the middle", sums.place(2, 0, 2, 17), 0);
        Check.due("count(9)", sums.count(9), 0);
        Check.due("a small one on the left", sums.place(2, 0, 0, 17), 4);
    }

    private static void promise8Errors() {
        String section = "Promise 8";
        Doc.about(section, "INVALID_ARGUMENT if an argument is out of range;");
        Check.refuses("place(0, 0, 0, 0) of no quote", Scene::sixArticles, none -> none.place(0, 0, 0, 0), Check.INVALID);
        Check.refuses("a module of another page by its row", Scene::allPages, g -> g.place(0, 0, 0, 120), Check.INVALID);
        Check.refuses("a module of this page by its row", Scene::allPages, g -> g.place(0, 0, 0, 20), Check.INVALID);
        Check.refuses("a module of this page by its column", Scene::allPages, g -> g.place(0, 1, -1, 25), Check.INVALID);
        // A 3x6 quote would be refused at all these places, if the argument were in its range.
        Consumer<QuoteGrid> refused = grid -> Check.load(grid, "a0 9:0;q0 0 3x6;");
        Check.refusesBeside("place(quote, 2, 5, 19)", refused, (asked, quote) -> asked.place(quote, 2, 5, 19), 0, 0);
        Check.refusesBeside("place(0, page, 5, 19)", refused, (asked, page) -> asked.place(0, page, 5, 19), 0, 2);
        Check.refusesBeside("place(0, 2, column, 19)", refused, (asked, column) -> asked.place(0, 2, column, 19), 0, 5);
        Check.refusesBeside("place(0, 2, 5, row)", refused, (asked, row) -> asked.place(0, 2, 5, row), 0, 19);
        Doc.about(section, "ILLEGAL_STATE if the place is refused.");
        refusesPlace("for 1", "a0 9:0;q0 0 2x1;", 5, 0, 1);
        refusesPlace("for 3", "a340 20:0;q0 0 1x1;", 5, 0, 3);
        refusesPlace("for 4", "a0 20:0;q0 0 1x1;", 4, 0, 4);
        refusesPlace("for 5", "a340 10:9;q0 0 1x1;", 4, 9, 5);
        Check.refuses("for 2", Scene::rich, rich -> rich.place(2, 0, 5, 12), Check.ILLEGAL);
        Consumer<QuoteGrid> pushing = grid -> {
            Check.load(grid, "a0 60:10,50;q0 0 1x1;q0 1 1x1;");
            grid.place(1, 0, 3, 13);
        };
        Check.refuses("for 6", pushing, grid -> grid.place(0, 0, 0, 0), Check.ILLEGAL);
        Check.due("not refused", Check.made(pushing).place(0, 0, 5, 0), 2);
        Check.refuses("one that is placed, to a refused place", Scene::rich, rich -> rich.place(0, 1, 0, 0), Check.ILLEGAL);
    }

    /** A place on page 2 for which refusal() tells this reason. */
    private static void refusesPlace(String what, String text, int column, int row, int reason) {
        Check.due("refusal() " + what, Check.read(text).refusal(0, 2, column, row), reason);
        Check.refuses(what, grid -> Check.load(grid, text), grid -> grid.place(0, 2, column, row), Check.ILLEGAL);
    }

    private static void promise9() {
        String section = "Promise 9";
        Doc.about(section, "Takes a placed quote away from its place.");
        QuoteGrid grid = Check.made(Scene::rich);
        grid.lift(1);
        Check.due("its modules", grid.page(2, 1), 0);
        Check.due("its page", grid.quote(1, 4), Check.NONE);
        Check.due("it is still there", grid.quote(1, 3), 3);
        Doc.about(section, "This is an action.");
        Check.isAction("lift(0)", Scene::fourStates, asked -> asked.lift(0));
        Doc.about(section, "- `quote`: a quote");
        Check.edges("lift(quote) of eight", Scene::eightPlaced, QuoteGrid::lift, 0, 1, 7, 1);
        Doc.about(section, "Returns the unrest then;");
        QuoteGrid sums = Scene.readAtAnyDistance("a100 200:0;q0 0 3x6;q0 0 1x5;");
        sums.place(0, 0, 0, 0);
        sums.place(1, 0, 5, 0);
        Check.due("before", sums.count(9), 13);
        Check.due("it can be more", sums.lift(1), 18);
        Check.due("without any", sums.lift(0), 0);
        Doc.about(section, "INVALID_ARGUMENT if there is no such quote;");
        Check.refusesBeside("lift(quote) of three", Scene::rich, QuoteGrid::lift, 0, 2);
        Check.refusesBeside("lift(quote) of none", EMPTY, QuoteGrid::lift, 0, -1);
        Doc.about(section, "ILLEGAL_STATE if it is not placed.");
        Check.refuses("one that never was", Scene::rich, rich -> rich.lift(2), Check.ILLEGAL);
        Check.refuses("one that was lifted", rich -> {
            Scene.rich(rich);
            rich.lift(0);
        }, rich -> rich.lift(0), Check.ILLEGAL);
    }

    private static void promise10() {
        String section = "Promise 10";
        Doc.about(section, "Floats all quotes that are not placed, by ascending numbers: each comes to its best place");
        QuoteGrid grid = Scene.readAtAnyDistance("a100 200:0;q0 0 1x1;q0 0 3x6;q0 0 1x1;q0 0 3x6;");
        grid.place(2, 1, 3, 0);
        QuoteGrid oneByOne = Scene.readAtAnyDistance("a100 200:0;q0 0 1x1;q0 0 3x6;q0 0 1x1;q0 0 3x6;");
        oneByOne.place(2, 1, 3, 0);
        Check.due("floatAll()", grid.floatAll(), 3);
        for (int quote : new int[] {0, 1, 3}) {
            int best = oneByOne.bestPlace(quote, 0);
            oneByOne.place(quote, best / 120, best % 120 / 20, best % 20);
        }
        for (int quote = 0; quote < 4; quote++) {
            for (int what = 4; what <= 7; what++) {
                Check.due("quote(" + quote + ", " + what + ")", grid.quote(quote, what), oneByOne.quote(quote, what));
            }
        }
        Check.due("the first one balances the placed one", grid.module(120), 21);
        Check.due("the placed one stays", grid.module(180), 23);
        Check.due("the second one comes first of the large ones", grid.quote(1, 4) * 20 + grid.quote(1, 5), 1);
        // The article of the first quote has no line, since all its lines are overset.
        QuoteGrid some = Scene.readAtAnyDistance("a340 20;a340 5:0;a0 60:59;q1 0 1x1;q2 0 1x1;");
        Check.due("one without a place, one with one", some.floatAll(), 1);
        Check.due("the first one stays as it is", some.quote(0, 4), Check.NONE);
        Check.due("the second one is placed", some.quote(1, 4), 0);
        Doc.about(section, "This is one action.");
        Check.isAction("floatAll() of eight", before -> Check.load(before, "a100 200:0;" + "q0 0 1x1;".repeat(8)),
                QuoteGrid::floatAll);
        Check.isAction("floatAll() of nothing", EMPTY, QuoteGrid::floatAll);
        Doc.about(section, "Returns the number of quotes that were placed.");
        Check.due("of no quotes", new QuoteGrid().floatAll(), 0);
        QuoteGrid eight = Check.made(Scene::eightToPlace);
        Check.due("of eight", eight.floatAll(), 8);
        Check.due("of eight that are placed", eight.floatAll(), 0);
        eight.lift(7);
        Check.due("of one", eight.floatAll(), 1);
        Check.due("where there are no places", Check.read("a0 200:0;a0 200:0;q0 0 1x1;").floatAll(), 0);
    }

    private static void promise11() {
        String section = "Promise 11";
        Doc.about(section, "Sets a rule.");
        QuoteGrid grid = new QuoteGrid();
        int[][] settings = {{0, 5}, {1, 9}, {2, 7}};
        for (int[] setting : settings) {
            grid.setRule(setting[0], setting[1]);
        }
        for (int[] setting : settings) {
            Check.due("rule " + setting[0], grid.count(3 + setting[0]), setting[1]);
        }
        Doc.about(section, "This is an action.");
        Check.isAction("setRule(2, 10)", Scene::fourStates, asked -> asked.setRule(2, 10));
        Check.isAction("setRule(2, 2), as it is", Scene::fourStates, asked -> asked.setRule(2, 2));
        Doc.about(section, "- `what`: 0 the least distance, 1 the greatest distance, 2 the gap");
        Check.edges("setRule(what, 5)", EMPTY, (asked, what) -> asked.setRule(what, 5), 0, 3, 2, 2);
        Doc.about(section, "- `value`: in its range;");
        Consumer<QuoteGrid> widest = Scene::anyDistance;
        Check.edges("setRule(0, value)", widest, (asked, value) -> asked.setRule(0, value), 0, 0, 10, 0);
        Check.edges("setRule(1, value)", widest, (asked, value) -> asked.setRule(1, value), 0, 20, 20, 20);
        Check.edges("setRule(2, value)", widest, (asked, value) -> asked.setRule(2, value), 1, 2, 10, 2);
        Doc.about(section, "the least distance at most the greatest one");
        for (int bound : new int[] {0, 1, 5, 9, 10}) {
            Consumer<QuoteGrid> both = asked -> {
                asked.setRule(0, 0);
                asked.setRule(1, bound);
                asked.setRule(0, bound);
            };
            Check.edges("setRule(0, value) below " + bound, both, (asked, value) -> asked.setRule(0, value),
                    0, bound, bound, bound);
            Check.edges("setRule(1, value) above " + bound, both, (asked, value) -> asked.setRule(1, value),
                    bound, bound, 20, bound);
            Check.edges("setRule(2, value) beside " + bound, both, (asked, value) -> asked.setRule(2, value),
                    1, 2, 10, 2);
        }
        Check.edges("setRule(0, value) below 11", asked -> asked.setRule(1, 11),
                (asked, value) -> asked.setRule(0, value), 0, 3, 10, 3);
        Doc.about(section, "Returns the previous value;");
        QuoteGrid previous = new QuoteGrid();
        int[][] calls = {{0, 0, 3}, {0, 10, 0}, {0, 10, 10}, {1, 20, 12}, {1, 10, 20}, {2, 1, 2}, {2, 10, 1}};
        for (int[] call : calls) {
            Check.due("setRule(" + call[0] + ", " + call[1] + ")", previous.setRule(call[0], call[1]), call[2]);
        }
        Doc.about(section, "INVALID_ARGUMENT if an argument is out of range.");
        Check.refuses("setRule(3, 1)", Scene::rich, rich -> rich.setRule(3, 1), Check.INVALID);
        Check.refuses("setRule(-1, 21)", Scene::rich, rich -> rich.setRule(-1, 21), Check.INVALID);
        Check.refuses("setRule(0, 13)", Scene::rich, rich -> rich.setRule(0, 13), Check.INVALID);
        Check.refuses("setRule(1, 1) below the least one", Scene::rich, rich -> rich.setRule(1, 1), Check.INVALID);
    }
}
