/** The edges that the terms name: pages and modules, articles and their layout, quotes, balance. */
final class GridEdges {
    private static final String PAGES = "Pages and modules";
    private static final String ARTICLES = "Articles";
    private static final String QUOTES = "Quotes";
    private static final String BALANCE = "Balance";

    private GridEdges() {
    }

    static void run() {
        lastCall();
        pages();
        moduleNumbers();
        sixArticles();
        smallerNumbersOfArticles();
        startsAndLengths();
        eightSentences();
        sameLine();
        quotesComeFirst();
        ascendingNumbers();
        notices();
        linesBehindNotices();
        overset();
        eightQuotes();
        sizes();
        placesOfQuotes();
        modulesOfQuotes();
        distanceFromModule();
        distanceOfQuotes();
        noModuleInCommon();
        balance();
        unrest();
    }

    private static void lastCall() {
        Doc.about("What it is", "An object is used for at most 512 calls after it has been made;");
        QuoteGrid grid = new QuoteGrid();
        grid.addArticle(0, 5);
        for (int call = 2; call <= 511; call++) {
            Check.due("call " + call, grid.setArticle(0, 0, call % 360), call == 2 ? 0 : (call - 1) % 360);
        }
        Check.due("call 512", grid.lineAt(0, 4), 511 % 360 + 4);
    }

    private static void pages() {
        Doc.about(PAGES, "There are 3 pages, numbered from 0, each with 6 columns and 20 rows.");
        Check.edges("refusal(0, page, 0, 0)", Scene::allPages, (grid, page) -> grid.refusal(0, page, 0, 0), 0, 0, 2, 0);
        Check.edges("refusal(0, 0, column, 0)", Scene::allPages,
                (grid, column) -> grid.refusal(0, 0, column, 0), 0, 0, 5, 0);
        Check.edges("refusal(0, 0, 0, row)", Scene::allPages, (grid, row) -> grid.refusal(0, 0, 0, row), 0, 0, 19, 0);
        Check.due("a quote beyond the sixth column", Check.read("a0 9:0;q0 0 2x1;").refusal(0, 0, 5, 0), 1);
        Check.due("a quote beyond the twentieth row", Check.read("a0 9:0;q0 0 1x2;").refusal(0, 0, 0, 19), 1);
    }

    private static void moduleNumbers() {
        Doc.about(PAGES, "The module in the column c and the row r of the page p has the number");
        for (int page = 0; page < 3; page++) {
            QuoteGrid grid = Check.made(Scene::allPages);
            for (int column = 0; column < 6; column++) {
                for (int row = 0; row < 20; row++) {
                    String place = page + ", " + column + ", " + row;
                    Check.due("place(0, " + place + ")", grid.place(0, page, column, row), 1);
                    Check.due("its module", grid.module(page * 120 + column * 20 + row), 21);
                }
            }
        }
        Check.edges("module()", Scene::allPages, QuoteGrid::module, 0, 0, 359, 0);
    }

    private static void sixArticles() {
        Doc.about(ARTICLES, "There are at most 6 articles, numbered from 0 in the order in which they were added;");
        QuoteGrid grid = new QuoteGrid();
        for (int i = 0; i < 6; i++) {
            Check.due("the next addArticle()", grid.addArticle(Scene.STARTS[i], Scene.LENGTHS[i]), i);
        }
        for (int i = 0; i < 6; i++) {
            Check.due("the start of " + i, grid.article(i, 0), Scene.STARTS[i]);
            Check.due("the length of " + i, grid.article(i, 1), Scene.LENGTHS[i]);
        }
        Check.refuses("a seventh article", Scene::sixArticles, full -> full.addArticle(1, 1), Check.FULL);
        grid.removeArticle(3);
        Check.due("one more when one is gone", grid.addArticle(1, 2), 5);
        Check.due("none more then", grid.addArticle(1, 2), Check.FULL);
    }

    private static void smallerNumbersOfArticles() {
        Doc.about(ARTICLES, "if one is removed, the numbers of those behind it become smaller by 1.");
        for (int removed : new int[] {0, 3, 5}) {
            QuoteGrid grid = Check.made(Scene::sixArticles);
            Check.due("removeArticle(" + removed + ")", grid.removeArticle(removed), 5);
            for (int i = 0; i < 5; i++) {
                int was = i < removed ? i : i + 1;
                Check.due("without " + removed + ", the start of " + i, grid.article(i, 0), Scene.STARTS[was]);
                Check.due("without " + removed + ", the length of " + i, grid.article(i, 1), Scene.LENGTHS[was]);
                Check.due("without " + removed + ", the line of " + i, grid.sentence(i, 0, 0), was % 5);
                Check.due("without " + removed + ", its start shows " + i, grid.module(Scene.STARTS[was]), 1 + i);
            }
            Check.due("without " + removed + ", there is no sixth", grid.article(5, 0), Check.INVALID);
        }
    }

    private static void startsAndLengths() {
        Doc.about(ARTICLES, "An article has a start, which is a module, and a length from 1 to 200 lines");
        for (int start : new int[] {0, 359}) {
            QuoteGrid grid = new QuoteGrid();
            grid.addArticle(start, 1);
            Check.due("the only line of an article at " + start, grid.lineAt(0, 0), start);
            Check.due("a second line", grid.lineAt(0, 1), Check.INVALID);
        }
        QuoteGrid longest = new QuoteGrid();
        longest.addArticle(0, 200);
        // A notice at 120, so that the lines behind it lie one module further.
        Check.due("line 119 of 200", longest.lineAt(0, 119), 119);
        Check.due("line 199 of 200", longest.lineAt(0, 199), 200);
        Check.due("line 200 of 200", longest.lineAt(0, 200), Check.INVALID);
        Check.refuses("an article at 360", Scene::rich, grid -> grid.addArticle(360, 1), Check.INVALID);
        Check.refuses("an article at -1", Scene::rich, grid -> grid.addArticle(-1, 1), Check.INVALID);
        Check.refuses("no lines", Scene::rich, grid -> grid.addArticle(0, 0), Check.INVALID);
        Check.refuses("201 lines", Scene::rich, grid -> grid.addArticle(0, 201), Check.INVALID);
    }

    private static void eightSentences() {
        Doc.about(ARTICLES, "It has at most 8 sentences, numbered from 0 in the order in which they were added;");
        QuoteGrid grid = Check.read("a0 10;a40 20:19;");
        for (int i = 0; i < 8; i++) {
            Check.due("the next addSentence()", grid.addSentence(0, 9 - i), i);
        }
        for (int i = 0; i < 8; i++) {
            Check.due("the line of " + i, grid.sentence(0, i, 0), 9 - i);
        }
        Check.due("no ninth one is there", grid.sentence(0, 8, 0), Check.INVALID);
        Check.due("another article has room", grid.addSentence(1, 0), 1);
        Check.refuses("a ninth sentence", Scene::eightSentences, full -> full.addSentence(0, 0), Check.FULL);
    }

    private static void sameLine() {
        Doc.about(ARTICLES, "a sentence has a line in which it begins (several can have the same one).");
        QuoteGrid grid = Check.read("a5 2;");
        for (int i = 0; i < 8; i++) {
            Check.due("a sentence in the last line", grid.addSentence(0, 1), i);
            Check.due("its line", grid.sentence(0, i, 0), 1);
            Check.due("its module", grid.sentence(0, i, 1), 6);
        }
    }

    private static void quotesComeFirst() {
        Doc.about(ARTICLES, "The layout is found like this: the modules of placed quotes are taken.");
        QuoteGrid grid = Scene.readAtAnyDistance("a0 30:29;a0 5;q0 0 2x2;q0 0 1x1;");
        Check.due("a quote that is not placed takes nothing", grid.count(8), 35);
        grid.place(0, 0, 0, 0);
        int[] takers = {21, 21, 1};
        for (int row = 0; row < takers.length; row++) {
            Check.due("module(" + row + ")", grid.module(row), takers[row]);
            Check.due("module(2" + row + ")", grid.module(20 + row), takers[row]);
        }
        Check.due("the first line goes behind it", grid.lineAt(0, 0), 2);
        Check.due("a line that goes around it", grid.lineAt(0, 18), 22);
        Check.due("the next article goes behind both", grid.lineAt(1, 0), 34);
        grid.lift(0);
        Check.due("a quote that was lifted takes nothing", grid.lineAt(0, 0), 0);
    }

    private static void ascendingNumbers() {
        Doc.about(ARTICLES, "Then each article, by ascending numbers, goes through the modules from its start on");
        QuoteGrid grid = Check.read("a5 5;a3 5;a0 2;");
        int[] takers = {3, 3, 0, 2, 2, 1, 1, 1, 1, 1, 2, 2, 2, 0};
        for (int module = 0; module < takers.length; module++) {
            Check.due("module(" + module + ")", grid.module(module), takers[module]);
        }
        QuoteGrid columns = Check.read("a19 2;");
        Check.due("the last row of a column", columns.lineAt(0, 0), 19);
        Check.due("then the first one of the next", columns.lineAt(0, 1), 20);
        QuoteGrid end = Check.read("a350 20;");
        Check.due("nothing ahead of the start", end.module(349), 0);
        Check.due("the last module", end.module(359), 1);
        Check.due("it does not begin again at the first module", end.module(0), 0);
    }

    private static void notices() {
        Doc.about(ARTICLES, "each module that is not taken yet is taken by the article: by a notice, if");
        jumps("the last line of a page is the last one of all", "a119 1;", 0, 120, 0);
        jumps("one line more", "a119 2;", 1, 120, 11);
        jumps("the first module of a page is the start", "a120 2;", 0, 120, 1);
        jumps("the start is on a page that is full", "a0 120;a0 2;", 0, 120, 2);
        jumps("one module is free on the page of the start", "a0 119;a0 2;", 1, 120, 12);
        jumps("a page in between is full", "a120 120;a119 2;", 1, 240, 12);
        jumps("a page in between has one free module", "a120 119;a119 2;", 2, 239, 12);
        jumps("and the notice there needs another one behind it", "a120 119;a119 2;", 2, 240, 12);
        jumps("no line follows it", "a240 119;a239 2;", 1, 359, 12);
        jumps("the pages end", "a359 2;", 0, 359, 1);
        QuoteGrid none = Check.read("a240 120;a239 2;");
        Check.due("no jump to a page that is full", none.article(1, 4), 0);
    }

    /** Checks the jumps of the last article in the text, and what takes a module. */
    private static void jumps(String what, String text, int want, int module, int taker) {
        QuoteGrid grid = Check.read(text);
        Check.due(what + ": the jumps", grid.article(grid.count(0) - 1, 4), want);
        Check.due(what + ": module(" + module + ")", grid.module(module), taker);
    }

    private static void linesBehindNotices() {
        Doc.about(ARTICLES, "otherwise by its next line.");
        QuoteGrid grid = Check.read("a118 124;");
        int[] modules = {118, 119, 121, 122};
        for (int line = 0; line < modules.length; line++) {
            Check.due("line " + line, grid.lineAt(0, line), modules[line]);
        }
        Check.due("the last line of the second page", grid.lineAt(0, 120), 239);
        Check.due("the first line of the third page", grid.lineAt(0, 121), 241);
        Check.due("the last line of all", grid.lineAt(0, 123), 243);
        Check.due("the modules that are taken", grid.count(8), 126);
    }

    private static void overset() {
        Doc.about(ARTICLES, "If an article comes to the end of the modules with lines left, it is overset by these");
        Check.due("up to the last module", Check.read("a340 20;").article(0, 3), 0);
        Check.due("one line more", Check.read("a340 21;").article(0, 3), 1);
        Check.due("one line at the last module", Check.read("a359 1;").article(0, 3), 0);
        Check.due("200 lines at the last module", Check.read("a359 200;").article(0, 3), 199);
        Check.due("no module is free", Check.read("a340 20;a340 200;").article(1, 3), 200);
        Check.due("a notice takes a module too", Check.read("a239 121;").article(0, 3), 1);
        Check.due("in all", Check.read("a340 21;a340 200;").count(6), 201);
    }

    private static void eightQuotes() {
        Doc.about(QUOTES, "There are at most 8 quotes, numbered like articles.");
        QuoteGrid grid = Check.read("a0 10:1,2,3;");
        for (int i = 0; i < 8; i++) {
            Check.due("the next addQuote()", grid.addQuote(0, 0, 1 + i / 6, 1 + i % 6), i);
        }
        for (int i = 0; i < 8; i++) {
            Check.due("the height of " + i, grid.quote(i, 3), 1 + i % 6);
        }
        Check.refuses("a ninth quote", Scene::eightQuotes, full -> full.addQuote(0, 0, 1, 1), Check.FULL);
        for (int removed : new int[] {0, 4, 7}) {
            QuoteGrid fewer = Check.made(Scene::eightQuotes);
            QuoteGrid whole = Check.made(Scene::eightQuotes);
            Check.due("removeQuote(" + removed + ")", fewer.removeQuote(removed), 7);
            for (int i = 0; i < 7; i++) {
                int was = i < removed ? i : i + 1;
                for (int what = 0; what <= 3; what++) {
                    Check.due("without " + removed + ", quote(" + i + ", " + what + ")", fewer.quote(i, what),
                            whole.quote(was, what));
                }
            }
            Check.due("there is no eighth one", fewer.quote(7, 0), Check.INVALID);
            Check.due("one more has room", fewer.addQuote(0, 0, 3, 3), 7);
            Check.due("none more then", fewer.addQuote(0, 0, 3, 3), Check.FULL);
        }
    }

    private static void sizes() {
        Doc.about(QUOTES, "has a width from 1 to 3 columns and a height from 1 to 6 rows, and is placed or not");
        QuoteGrid grid = Check.read("a0 10:1;");
        Check.due("the smallest", grid.addQuote(0, 0, 1, 1), 0);
        Check.due("the largest", grid.addQuote(0, 0, 3, 6), 1);
        int[][] properties = {{0, 0, 1, 1, -99, -99, -99, -99}, {0, 0, 3, 6, -99, -99, -99, -99}};
        for (int quote = 0; quote <= 1; quote++) {
            for (int what = 0; what <= 7; what++) {
                Check.due("quote(" + quote + ", " + what + ")", grid.quote(quote, what), properties[quote][what]);
            }
        }
        Check.due("none is placed at first", grid.count(2), 0);
        int[][] wrong = {{0, 1}, {4, 1}, {1, 0}, {1, 7}};
        for (int[] size : wrong) {
            Check.refuses(size[0] + " columns and " + size[1] + " rows", Scene::rich,
                    rich -> rich.addQuote(0, 0, size[0], size[1]), Check.INVALID);
        }
    }

    private static void placesOfQuotes() {
        Doc.about(QUOTES, "A placed quote has a page, a column and a row;");
        int[][] places = {{0, 0, 0}, {0, 5, 19}, {2, 0, 0}, {2, 5, 19}};
        for (int[] place : places) {
            QuoteGrid grid = Check.made(Scene::allPages);
            grid.place(0, place[0], place[1], place[2]);
            for (int i = 0; i < 3; i++) {
                Check.due("quote(0, " + (4 + i) + ")", grid.quote(0, 4 + i), place[i]);
            }
        }
    }

    private static void modulesOfQuotes() {
        Doc.about(QUOTES, "it takes the modules of its width from its column on, and of its height from its row on.");
        int[][] places = {{0, 0, 0}, {1, 3, 14}, {2, 1, 7}};
        for (int[] place : places) {
            QuoteGrid grid = Scene.readAtAnyDistance("a100 200:0;q0 0 3x6;");
            Check.due("place()", grid.place(0, place[0], place[1], place[2]), place[1] == 1 ? 6 : 18);
            int first = place[0] * 120 + place[1] * 20 + place[2];
            int taken = 0;
            for (int module = 0; module < 360; module++) {
                taken += grid.module(module) == 21 ? 1 : 0;
            }
            Check.due("all its modules", taken, 18);
            for (int column = 0; column < 3; column++) {
                for (int row = 0; row < 6; row++) {
                    Check.due("a module of it", grid.module(first + column * 20 + row), 21);
                }
            }
        }
    }

    /** The sentence stays in column 2 and row 10, as long as the quote does not take this module. */
    private static void distanceFromModule() {
        Doc.about(QUOTES, "The distance of a quote from a module of its page is the greater one of two numbers");
        int[][] places = {{0, 0, 8}, {0, 10, 1}, {3, 10, 1}, {4, 10, 2}, {3, 9, 1}, {3, 8, 1}, {3, 7, 1}, {3, 6, 2},
            {2, 11, 1}, {1, 11, 1}, {2, 12, 2}, {2, 7, 1}, {1, 7, 1}, {2, 6, 2}, {4, 14, 4}, {4, 17, 7}, {4, 13, 3},
            {4, 12, 2}, {4, 5, 3}, {4, 0, 8}, {0, 17, 7}};
        for (int[] place : places) {
            QuoteGrid grid = Scene.readAtAnyDistance("a50 20:0;q0 0 2x3;");
            grid.place(0, 0, place[0], place[1]);
            Check.due("in column " + place[0] + " and row " + place[1], grid.quote(0, 7), place[2]);
        }
        QuoteGrid upon = Scene.readAtAnyDistance("a50 20:0;q0 0 2x3;");
        upon.place(0, 0, 2, 10);
        Check.due("the sentence goes below it", upon.sentence(0, 0, 1), 53);
        Check.due("so that it stands beside it", upon.quote(0, 7), 1);
        QuoteGrid widest = Scene.readAtAnyDistance("a100 1:0;q0 0 1x1;");
        widest.place(0, 0, 0, 19);
        Check.due("the greatest of all", widest.quote(0, 7), 19);
    }

    /** The other quote has columns 2 and 3, rows 8 to 10 of page 0. */
    private static void distanceOfQuotes() {
        Doc.about(QUOTES, "The distance of two quotes on a page is likewise the greater one");
        int[][] places = {{2, 8, 0}, {3, 10, 0}, {2, 7, 0}, {3, 11, 1}, {2, 6, 1}, {2, 5, 2}, {3, 12, 2}, {4, 9, 1},
            {1, 9, 1}, {0, 9, 2}, {5, 9, 2}, {4, 11, 1}, {1, 6, 1}, {5, 12, 2}, {5, 14, 4}, {0, 0, 7}, {0, 18, 8}};
        for (int[] place : places) {
            String where = "in column " + place[0] + " and row " + place[1];
            for (int gap = 1; gap <= 10; gap++) {
                QuoteGrid grid = twoQuotes();
                grid.setRule(2, gap);
                boolean near = grid.refusal(1, 0, place[0], place[1]) == 2;
                Check.holds(where + ", distance " + place[2] + ", gap " + gap, near == place[2] < gap);
            }
        }
        QuoteGrid grid = twoQuotes();
        grid.setRule(2, 10);
        Check.due("on another page there is no distance", grid.refusal(1, 1, 2, 8), 0);
    }

    private static QuoteGrid twoQuotes() {
        QuoteGrid grid = Scene.readAtAnyDistance("a100 200:0;q0 0 2x3;q0 0 1x2;");
        grid.setRule(2, 1);
        grid.place(0, 0, 2, 8);
        return grid;
    }

    private static void noModuleInCommon() {
        Doc.about(QUOTES, "(So it is 0 just if they have a module in common.)");
        QuoteGrid grid = twoQuotes();
        for (int column = 1; column <= 4; column++) {
            for (int row = 6; row <= 11; row++) {
                // The asked quote has one column and two rows.
                boolean common = column >= 2 && column <= 3 && row + 1 >= 8 && row <= 10;
                Check.due("in column " + column + " and row " + row, grid.refusal(1, 0, column, row), common ? 2 : 0);
            }
        }
    }

    private static void balance() {
        Doc.about(BALANCE, "The balance of a page is the difference, without sign");
        int[][] byWidth = {{1, 1, 1, 1, 1, 1}, {2, 2, 0, 2, 2}, {3, 1, 1, 3}};
        for (int width = 1; width <= 3; width++) {
            for (int column = 0; column <= 6 - width; column++) {
                QuoteGrid grid = Scene.readAtAnyDistance("a100 200:0;q0 0 " + width + "x5;");
                grid.place(0, 1, column, 7);
                int want = byWidth[width - 1][column] * 5;
                Check.due(width + " columns from " + column, grid.page(1, 0), want);
                Check.due("another page", grid.page(0, 0) + grid.page(2, 0), 0);
            }
        }
        QuoteGrid grid = Scene.readAtAnyDistance("a100 200:0;q0 0 1x2;q0 0 1x6;q0 0 1x4;q0 0 1x6;");
        int[][] places = {{2, 2}, {4, 4}, {0, 0}, {5, 6}};
        for (int i = 0; i < places.length; i++) {
            grid.place(i, 0, places[i][0], 8 * (i / 2));
            Check.due("the balance with " + (i + 1) + " quotes", grid.page(0, 0), places[i][1]);
        }
        Check.due("of a page without quotes", grid.page(2, 0), 0);
    }

    private static void unrest() {
        Doc.about(BALANCE, "The unrest is the sum of the balances of all pages.");
        QuoteGrid grid = Scene.readAtAnyDistance("a100 200:0;q0 0 1x2;q0 0 1x6;q0 0 1x4;");
        Check.due("without placed quotes", grid.count(9), 0);
        Check.due("on the first page, left", grid.place(0, 0, 2, 0), 2);
        Check.due("on the second page, right", grid.place(1, 1, 3, 0), 8);
        Check.due("on the third page, right", grid.place(2, 2, 5, 0), 12);
        Check.due("count(9)", grid.count(9), 12);
        Check.due("to the page of another one, on the other side", grid.place(2, 1, 0, 0), 4);
    }
}
