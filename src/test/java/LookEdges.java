import java.util.function.Consumer;

/** The edges of promises 18 to 24: looking. */
final class LookEdges {
    private static final Consumer<QuoteGrid> EMPTY = grid -> { };
    /** Line 9 is the last one of page 0, line 10 the first one of page 1, line 129 the last one there. */
    private static final String JUMPING = "a110 140:9,10,129;a350 12:9,10;q0 1 2x3;q1 1 1x1;";

    private LookEdges() {
    }

    static void run() {
        promise18();
        promise18Full();
        promise19();
        promise19Modules();
        promise20();
        promise21();
        promise22();
        promise22Nones();
        promise23();
        promise24();
    }

    private static void jumping(QuoteGrid grid) {
        Check.load(grid, JUMPING);
    }

    private static void counts(String what, QuoteGrid grid, int... counts) {
        for (int i = 0; i < counts.length; i++) {
            Check.due("count(" + i + ") of " + what, grid.count(i), counts[i]);
        }
    }

    private static void promise18() {
        String section = "Promise 18";
        Doc.about(section, "Returns a number.");
        counts("nothing", new QuoteGrid(), 0, 0, 0, 3, 12, 2, 0, 0, 0, 0, 0, 0, 0);
        // 60 lines, 20 of 30 lines, and seven modules of quotes.
        counts("a rich one", Check.made(Scene::rich), 2, 3, 2, 2, 12, 3, 10, 0, 87, 7, 1, 5, 6);
        Doc.about(section, "- `what`: 0 the number of articles, 1 of quotes, 2 of placed quotes, 3 to 5 the rules");
        Check.edges("count(what)", EMPTY, QuoteGrid::count, 0, 0, 12, 0);
        Check.edges("count(what)", Scene::rich, QuoteGrid::count, 0, 2, 12, 6);
        Doc.about(section, "Returns the number;");
        QuoteGrid grid = Check.made(Scene::eightPlaced);
        grid.take(0);
        grid.take(1);
        // 200 lines, 2 notices, 8 quotes.
        counts("eight placed quotes", grid, 1, 8, 8, 0, 20, 2, 0, 2, 210, 0, 2, 5, 0);
        Doc.about(section, "INVALID_ARGUMENT if what is out of range.");
        Check.refuses("count(13)", EMPTY, fresh -> fresh.count(13), Check.INVALID);
        Check.refuses("count(-1)", EMPTY, fresh -> fresh.count(-1), Check.INVALID);
    }

    private static void promise18Full() {
        Doc.about("Promise 18", "8 the modules that are taken (by quotes, lines or notices)");
        Check.due("all modules", Check.read("a0 200;a0 200;").count(8), 360);
        Check.due("all modules, with a line overset", Check.read("a0 200;a0 159;").count(8), 360);
        Check.due("all but the last one", Check.read("a0 200;a0 157;").count(8), 359);
        Check.due("the first one alone", Check.read("a0 1;").count(8), 1);
        Check.due("the last one alone", Check.read("a359 1;").count(8), 1);
        Check.due("a notice alone beside a line", Check.read("a240 119;a239 2;").count(8), 121);
        QuoteGrid overset = Check.read("a359 200;a359 200;a359 200;a359 200;a359 200;a359 200;");
        Check.due("the lines by which six articles are overset", overset.count(6), 1199);
        QuoteGrid six = Check.read("a0 140;a0 200;a0 200;a0 200;a0 200;a119 200;");
        Check.due("the jumps of the articles that have one", six.count(7), 2);
        QuoteGrid fewer = Check.read("a0 140;a300 200;");
        fewer.removeArticle(1);
        Check.due("nothing is overset without the second one", fewer.count(6), 0);
        fewer.removeArticle(0);
        Check.due("no jumps without the first one", fewer.count(7), 0);
    }

    private static void promise19() {
        String section = "Promise 19";
        Doc.about(section, "Returns a property of an article.");
        QuoteGrid grid = Check.made(LookEdges::jumping);
        int[][] properties = {{110, 140, 3, 0, 2, 110, 251}, {350, 12, 2, 2, 0, 350, 359}};
        for (int article = 0; article <= 1; article++) {
            for (int what = 0; what <= 6; what++) {
                Check.due("article(" + article + ", " + what + ")", grid.article(article, what),
                        properties[article][what]);
            }
        }
        Doc.about(section, "- `article`: an article");
        Check.edges("article(article, 0) of two", LookEdges::jumping, (asked, article) -> asked.article(article, 0),
                0, 110, 1, 350);
        Check.edges("article(article, 1) of six", Scene::sixArticles, (asked, article) -> asked.article(article, 1),
                0, 5, 5, 10);
        Doc.about(section, "- `what`: 0 its start, 1 its length, 2 the number of its sentences");
        Check.edges("article(1, what)", LookEdges::jumping, (asked, what) -> asked.article(1, what), 0, 350, 6, 359);
        Doc.about(section, "Returns the property;");
        Check.due("no sentences", Check.read("a0 9;").article(0, 2), 0);
        Check.due("eight sentences", Check.made(Scene::eightSentences).article(0, 2), 8);
        Check.due("overset by one", Check.read("a359 2;").article(0, 3), 1);
        Check.due("overset by all", Check.read("a359 1;a359 200;").article(1, 3), 200);
        Check.due("no jump", Check.read("a0 120;").article(0, 4), 0);
        Check.due("one jump", Check.read("a0 121;").article(0, 4), 1);
        Check.due("two jumps", Check.read("a100 200;").article(0, 4), 2);
        Doc.about(section, "INVALID_ARGUMENT if there is no such article or what is out of range.");
        Check.refuses("article(0, 0) of none", EMPTY, fresh -> fresh.article(0, 0), Check.INVALID);
        Check.refuses("article(2, 7)", LookEdges::jumping, asked -> asked.article(2, 7), Check.INVALID);
        QuoteGrid gone = Check.made(LookEdges::jumping);
        gone.removeArticle(0);
        Check.due("article(1, 0) when one is gone", gone.article(1, 0), Check.INVALID);
    }

    private static void promise19Modules() {
        Doc.about("Promise 19", "5 the module of its first line and 6 that of its last line that is not overset");
        int[][] texts = {{0, 1, 0, 0}, {0, 200, 0, 200}, {359, 1, 359, 359}, {359, 200, 359, 359},
            {119, 1, 119, 119}, {119, 2, 119, 121}, {239, 121, 239, 359}, {239, 200, 239, 359}};
        for (int[] text : texts) {
            QuoteGrid grid = new QuoteGrid();
            grid.addArticle(text[0], text[1]);
            Check.due("the first line of " + text[1] + " at " + text[0], grid.article(0, 5), text[2]);
            Check.due("the last line of " + text[1] + " at " + text[0], grid.article(0, 6), text[3]);
        }
        Doc.about("Promise 19", "(NONE for both if all are)");
        QuoteGrid all = Check.read("a340 20;a340 5;");
        Check.due("the first line", all.article(1, 5), Check.NONE);
        Check.due("the last line", all.article(1, 6), Check.NONE);
        QuoteGrid most = Check.read("a340 19;a340 5;");
        Check.due("the first line of one that is not", most.article(1, 5), 359);
        Check.due("the last line of one that is not", most.article(1, 6), 359);
    }

    private static void promise20() {
        String section = "Promise 20";
        Doc.about(section, "Returns the module in which a line lies.");
        QuoteGrid grid = Check.made(LookEdges::jumping);
        int[][] lines = {{0, 110}, {9, 119}, {10, 121}, {128, 239}, {129, 241}, {139, 251}};
        for (int[] line : lines) {
            Check.due("lineAt(0, " + line[0] + ")", grid.lineAt(0, line[0]), line[1]);
        }
        Doc.about(section, "- `article`: an article");
        Check.edges("lineAt(article, 4) of six", Scene::sixArticles, (asked, article) -> asked.lineAt(article, 4),
                0, 11, 5, 304);
        Doc.about(section, "- `line`: 0 to its length less 1");
        Check.edges("lineAt(0, line) of one", fresh -> fresh.addArticle(7, 1), (asked, line) -> asked.lineAt(0, line),
                0, 7, 0, 7);
        Check.edges("lineAt(0, line) of 200", fresh -> fresh.addArticle(7, 200),
                (asked, line) -> asked.lineAt(0, line), 0, 7, 199, 207);
        Check.edges("lineAt(1, line), overset", LookEdges::jumping, (asked, line) -> asked.lineAt(1, line),
                0, 350, 11, Check.NONE);
        Doc.about(section, "Returns the module;");
        Check.due("the first one of all", Check.read("a0 1;").lineAt(0, 0), 0);
        Check.due("the last one of all", Check.read("a358 2;").lineAt(0, 1), 359);
        Doc.about(section, "INVALID_ARGUMENT if an argument is out of range;");
        Check.refuses("lineAt(0, 0) of none", EMPTY, fresh -> fresh.lineAt(0, 0), Check.INVALID);
        QuoteGrid shorter = Check.read("a7 200;");
        shorter.setArticle(0, 1, 50);
        Check.due("the last line of a shorter length", shorter.lineAt(0, 49), 56);
        Check.due("a line behind it", shorter.lineAt(0, 50), Check.INVALID);
        Doc.about(section, "NONE if the line is overset.");
        Check.due("the last line that is not", grid.lineAt(1, 9), 359);
        Check.due("the first line that is", grid.lineAt(1, 10), Check.NONE);
        Check.due("the last line of all", grid.lineAt(1, 11), Check.NONE);
        Check.due("line 0 of an article that is overset", Check.read("a0 200;a0 200;a0 9;").lineAt(2, 0), Check.NONE);
    }

    private static void promise21() {
        String section = "Promise 21";
        Doc.about(section, "Returns the line or the module of a sentence.");
        QuoteGrid grid = Check.made(LookEdges::jumping);
        int[][] sentences = {{9, 119}, {10, 121}, {129, 241}};
        for (int i = 0; i < sentences.length; i++) {
            Check.due("the line of " + i, grid.sentence(0, i, 0), sentences[i][0]);
            Check.due("the module of " + i, grid.sentence(0, i, 1), sentences[i][1]);
        }
        Doc.about(section, "- `article`: an article");
        Check.edges("sentence(article, 0, 1) of six", Scene::sixArticles,
                (asked, article) -> asked.sentence(article, 0, 1), 0, 7, 5, 300);
        Doc.about(section, "- `sentence`: a sentence of it");
        Check.edges("sentence(0, sentence, 0) of eight", Scene::eightSentences,
                (asked, sentence) -> asked.sentence(0, sentence, 0), 0, 9, 7, 3);
        Check.edges("sentence(1, sentence, 0) of one", Scene::eightSentences,
                (asked, sentence) -> asked.sentence(1, sentence, 0), 0, 19, 0, 19);
        Check.refuses("sentence(0, 0, 0) of none", fresh -> fresh.addArticle(0, 9), one -> one.sentence(0, 0, 0),
                Check.INVALID);
        Doc.about(section, "- `what`: 0 its line, 1 the module of this line");
        Check.edges("sentence(0, 1, what)", LookEdges::jumping, (asked, what) -> asked.sentence(0, 1, what),
                0, 10, 1, 121);
        Doc.about(section, "Returns the number;");
        QuoteGrid edges = Check.read("a0 200:0,199;a358 2:1;");
        Check.due("the first line and module", edges.sentence(0, 0, 0) + edges.sentence(0, 0, 1), 0);
        Check.due("the last line", edges.sentence(0, 1, 0), 199);
        Check.due("the last module", edges.sentence(1, 0, 1), 359);
        Doc.about(section, "INVALID_ARGUMENT if an argument is out of range;");
        Check.refuses("sentence(0, 0, 0) of no article", EMPTY, fresh -> fresh.sentence(0, 0, 0), Check.INVALID);
        Check.refusesBeside("sentence(1, 1, what), overset", LookEdges::jumping,
                (asked, what) -> asked.sentence(1, 1, what), 0, 1);
        Doc.about(section, "NONE for 1 if the line is overset.");
        Check.due("the module in the last line that is not", grid.sentence(1, 0, 1), 359);
        Check.due("the module in the first line that is", grid.sentence(1, 1, 1), Check.NONE);
        Check.due("but its line", grid.sentence(1, 1, 0), 10);
    }

    private static void promise22() {
        String section = "Promise 22";
        Doc.about(section, "Returns a property of a quote.");
        QuoteGrid grid = Check.made(LookEdges::jumping);
        grid.place(0, 1, 3, 4);
        int[] properties = {0, 1, 2, 3, 1, 3, 4, 3};
        for (int what = 0; what < properties.length; what++) {
            Check.due("quote(0, " + what + ")", grid.quote(0, what), properties[what]);
        }
        Doc.about(section, "- `quote`: a quote");
        Check.edges("quote(quote, 3) of three", Scene::rich, (asked, quote) -> asked.quote(quote, 3), 0, 1, 2, 2);
        Check.edges("quote(quote, 2) of eight", Scene::eightQuotes, (asked, quote) -> asked.quote(quote, 2), 0, 1, 7, 2);
        Doc.about(section, "- `what`: 0 its article, 1 its sentence, 2 its width, 3 its height, 4 its page");
        Check.edges("quote(1, what), placed", Scene::rich, (asked, what) -> asked.quote(1, what), 0, 1, 7, 4);
        Check.edges("quote(2, what), not placed", Scene::rich, (asked, what) -> asked.quote(2, what),
                0, 0, 7, Check.NONE);
        Doc.about(section, "Returns the property;");
        QuoteGrid corner = Scene.readAtAnyDistance("a100 200:0,1,2,3,4,5,6,7;q0 7 3x6;");
        corner.place(0, 2, 3, 14);
        int[] last = {0, 7, 3, 6, 2, 3, 14, Check.NONE};
        for (int what = 0; what < last.length; what++) {
            Check.due("quote(0, " + what + ") at the end of the last page", corner.quote(0, what), last[what]);
        }
        Doc.about(section, "INVALID_ARGUMENT if there is no such quote or what is out of range.");
        Check.refuses("quote(0, 0) of none", Scene::sixArticles, none -> none.quote(0, 0), Check.INVALID);
        Check.refuses("quote(3, 8)", Scene::rich, rich -> rich.quote(3, 8), Check.INVALID);
        QuoteGrid gone = Check.made(Scene::rich);
        gone.removeQuote(0);
        Check.due("quote(2, 0) when one is gone", gone.quote(2, 0), Check.INVALID);
    }

    private static void promise22Nones() {
        Doc.about("Promise 22", "6 its row (NONE for 4 to 6 if it is not placed)");
        QuoteGrid grid = Check.made(Scene::rich);
        grid.lift(0);
        for (int quote : new int[] {0, 2}) {
            for (int what = 0; what <= 6; what++) {
                boolean none = grid.quote(quote, what) == Check.NONE;
                Check.holds("quote(" + quote + ", " + what + ") is NONE: " + none, none == what >= 4);
            }
        }
        Doc.about("Promise 22", "(NONE if it is not placed, or they are not on one page)");
        Check.due("one that is not placed", grid.quote(2, 7), Check.NONE);
        Check.due("one that was lifted", grid.quote(0, 7), Check.NONE);
        QuoteGrid pages = Check.read("a110 40:9,10;q0 0 1x1;q0 1 1x1;");
        pages.place(0, 0, 2, 19);
        pages.place(1, 1, 3, 0);
        Check.due("with the last line of its page", pages.quote(0, 7), 3);
        Check.due("with the first line of its page", pages.quote(1, 7), 3);
        pages.setArticle(0, 0, 111);
        Check.due("with the first line of the next page", pages.quote(0, 7), Check.NONE);
        pages.setArticle(0, 0, 109);
        Check.due("with the last line of the page ahead", pages.quote(1, 7), Check.NONE);
        pages.setArticle(0, 0, 355);
        Check.due("with a line that is overset", pages.quote(0, 7), Check.NONE);
    }

    private static void promise23() {
        String section = "Promise 23";
        Doc.about(section, "Tells what takes a module.");
        QuoteGrid grid = Check.made(LookEdges::jumping);
        grid.place(0, 1, 3, 4);
        int[][] takers = {{0, 0}, {109, 0}, {110, 1}, {119, 1}, {120, 11}, {121, 1}, {184, 21}, {206, 21}, {240, 11},
            {349, 0}, {350, 2}, {359, 2}};
        for (int[] taker : takers) {
            Check.due("module(" + taker[0] + ")", grid.module(taker[0]), taker[1]);
        }
        Doc.about(section, "- `module`: 0 to 359");
        Check.edges("module(module)", Scene::rich, QuoteGrid::module, 0, 1, 359, 2);
        Check.edges("module(module) of nothing", EMPTY, QuoteGrid::module, 0, 0, 359, 0);
        Doc.about(section, "Returns 0 if nothing does, 1 plus the number of the article for a line, 11 plus it for a");
        QuoteGrid six = Check.read("a0 1;a1 1;a2 1;a3 1;a4 1;a119 2;");
        for (int module = 0; module <= 6; module++) {
            Check.due("a line of article " + module, six.module(module), module < 5 ? 1 + module : 0);
        }
        Check.due("a line of article 5", six.module(119), 6);
        Check.due("a notice of article 5", six.module(120), 16);
        QuoteGrid eight = Check.made(Scene::eightPlaced);
        for (int quote = 0; quote < 8; quote++) {
            int module = eight.quote(quote, 4) * 120 + eight.quote(quote, 5) * 20 + eight.quote(quote, 6);
            Check.due("a module of quote " + quote, eight.module(module), 21 + quote);
        }
        Doc.about(section, "INVALID_ARGUMENT if module is out of range.");
        Check.refuses("module(360)", LookEdges::jumping, asked -> asked.module(360), Check.INVALID);
        Check.refuses("module(-1)", LookEdges::jumping, asked -> asked.module(-1), Check.INVALID);
    }

    private static void promise24() {
        String section = "Promise 24";
        Doc.about(section, "Returns something about a page.");
        QuoteGrid grid = Check.made(Scene::rich);
        int[][] pages = {{1, 1, 60}, {0, 0, 0}, {6, 6, 20}};
        for (int page = 0; page <= 2; page++) {
            for (int what = 0; what <= 2; what++) {
                Check.due("page(" + page + ", " + what + ")", grid.page(page, what), pages[page][what]);
            }
        }
        Doc.about(section, "- `page`: 0 to 2");
        Check.edges("page(page, 2)", Scene::rich, (asked, page) -> asked.page(page, 2), 0, 60, 2, 20);
        Doc.about(section, "- `what`: 0 its balance, 1 the modules that quotes take, 2 those that lines and notices");
        Check.edges("page(0, what)", Scene::rich, (asked, what) -> asked.page(0, what), 0, 1, 2, 60);
        Doc.about(section, "Returns the number;");
        QuoteGrid full = Check.read("a0 120;a120 119;a119 2;a239 2;");
        for (int page = 0; page <= 1; page++) {
            Check.due("a full page " + page, full.page(page, 2), 120);
        }
        Check.due("a notice and three lines", full.page(2, 2), 4);
        QuoteGrid many = Scene.readAtAnyDistance("a100 60:0;" + "q0 0 3x6;".repeat(4));
        for (int quote = 0; quote < 4; quote++) {
            many.setRule(2, 1);
            many.place(quote, 1, 3 * (quote % 2), 7 * (quote / 2));
            Check.due("the modules of quotes", many.page(1, 1), 18 * (quote + 1));
        }
        Check.due("a notice and forty lines around them", many.page(1, 2), 41);
        Doc.about(section, "INVALID_ARGUMENT if an argument is out of range.");
        Check.refuses("page(3, 3)", Scene::rich, rich -> rich.page(3, 3), Check.INVALID);
        Check.refuses("page(3, 0) of nothing", EMPTY, fresh -> fresh.page(3, 0), Check.INVALID);
        Check.refuses("page(0, 3) of nothing", EMPTY, fresh -> fresh.page(0, 3), Check.INVALID);
    }
}
