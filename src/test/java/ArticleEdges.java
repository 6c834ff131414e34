import java.util.function.Consumer;

/** The edges of promises 1 to 5: a new object, articles and sentences. */
final class ArticleEdges {
    private static final Consumer<QuoteGrid> EMPTY = grid -> { };

    private ArticleEdges() {
    }

    static void run() {
        promise1();
        promise2();
        promise3();
        promise3Quotes();
        promise4();
        promise4Values();
        promise5();
    }

    private static void promise1() {
        Doc.about("Promise 1", "`QuoteGrid()`: Creates empty pages, with an empty text.");
        QuoteGrid used = Check.made(Scene::rich);
        QuoteGrid grid = new QuoteGrid();
        int[] counts = {0, 0, 0, 3, 12, 2, 0, 0, 0, 0, 0, 0, 0};
        for (int what = 0; what < counts.length; what++) {
            Check.due("count(" + what + ")", grid.count(what), counts[what]);
        }
        for (int module = 0; module < 360; module++) {
            Check.due("module(" + module + ")", grid.module(module), 0);
        }
        for (int page = 0; page < 3; page++) {
            for (int what = 0; what <= 2; what++) {
                Check.due("page(" + page + ", " + what + ")", grid.page(page, what), 0);
            }
        }
        Check.due("clearText()", grid.clearText(), 0);
        Check.due("undo()", grid.undo(), Check.ILLEGAL);
        Check.due("restore(0)", grid.restore(0), Check.ILLEGAL);
        Check.due("restore(1)", grid.restore(1), Check.ILLEGAL);
        Check.due("troubled()", grid.troubled(), 0);
        Check.due("article(0, 0)", grid.article(0, 0), Check.INVALID);
        Check.due("quote(0, 0)", grid.quote(0, 0), Check.INVALID);
        Check.due("an object that was there is not touched", used.count(0), 2);
    }

    private static void promise2() {
        String section = "Promise 2";
        Doc.about(section, "Adds an article without sentences.");
        QuoteGrid grid = Check.made(Scene::eightSentences);
        grid.removeArticle(0);
        Check.due("addArticle(9, 9)", grid.addArticle(9, 9), 1);
        Check.due("its sentences", grid.article(1, 2), 0);
        Check.due("sentence 0 of it", grid.sentence(1, 0, 0), Check.INVALID);
        Doc.about(section, "This is an action.");
        Check.isAction("addArticle(9, 9)", Scene::fourStates, asked -> asked.addArticle(9, 9));
        Check.isAction("addArticle(0, 1)", EMPTY, asked -> asked.addArticle(0, 1));
        Doc.about(section, "- `start`: 0 to 359");
        Check.edges("addArticle(start, 5)", EMPTY, (asked, start) -> asked.addArticle(start, 5), 0, 0, 359, 0);
        Check.edges("addArticle(start, 5)", Scene::rich, (asked, start) -> asked.addArticle(start, 5), 0, 2, 359, 2);
        Doc.about(section, "- `length`: 1 to 200");
        Check.edges("addArticle(5, length)", EMPTY, (asked, length) -> asked.addArticle(5, length), 1, 0, 200, 0);
        Check.edges("addArticle(5, length)", Scene::rich, (asked, length) -> asked.addArticle(5, length), 1, 2, 200, 2);
        Doc.about(section, "Returns its number;");
        QuoteGrid counted = new QuoteGrid();
        for (int number = 0; number < 6; number++) {
            Check.due("addArticle(0, 200)", counted.addArticle(0, 200), number);
        }
        Doc.about(section, "INVALID_ARGUMENT if an argument is out of range;");
        Check.refuses("both out of range", Scene::rich, rich -> rich.addArticle(360, 0), Check.INVALID);
        Check.refuses("the other way round", Scene::rich, rich -> rich.addArticle(-1, 201), Check.INVALID);
        Check.refusesBeside("a seventh one, addArticle(start, 5)", Scene::sixArticles,
                (asked, start) -> asked.addArticle(start, 5), 0, 359);
        Check.refusesBeside("a seventh one, addArticle(5, length)", Scene::sixArticles,
                (asked, length) -> asked.addArticle(5, length), 1, 200);
        Doc.about(section, "CAPACITY_EXCEEDED if there are 6 articles.");
        Check.refuses("addArticle(0, 1)", Scene::sixArticles, full -> full.addArticle(0, 1), Check.FULL);
        Check.refuses("addArticle(359, 200)", Scene::sixArticles, full -> full.addArticle(359, 200), Check.FULL);
        Check.due("undo() makes room", counted.undo() + counted.addArticle(0, 1), 4 + 5);
    }

    private static void promise3() {
        String section = "Promise 3";
        Doc.about(section, "This is an action.");
        Check.isAction("removeArticle(0)", Scene::fourStates, asked -> asked.removeArticle(0));
        Check.isAction("removeArticle(1)", Scene::fourStates, asked -> asked.removeArticle(1));
        Doc.about(section, "- `article`: an article");
        Check.edges("removeArticle(article) of two", Scene::rich, QuoteGrid::removeArticle, 0, 1, 1, 1);
        Check.edges("removeArticle(article) of six", Scene::sixArticles, QuoteGrid::removeArticle, 0, 5, 5, 5);
        Doc.about(section, "Returns the number of articles then;");
        QuoteGrid grid = Check.made(Scene::sixArticles);
        for (int left = 5; left >= 0; left--) {
            Check.due("removeArticle(0)", grid.removeArticle(0), left);
            Check.due("count(0)", grid.count(0), left);
        }
        Doc.about(section, "INVALID_ARGUMENT if there is no such article.");
        Check.refuses("removeArticle(0) of none", EMPTY, fresh -> fresh.removeArticle(0), Check.INVALID);
        Check.due("behind the last one", grid.removeArticle(0), Check.INVALID);
    }

    private static void promise3Quotes() {
        Doc.about("Promise 3", "Removes an article and all quotes of it;");
        QuoteGrid all = Check.read("a100 200:0;" + "q0 0 1x1;".repeat(8));
        Scene.anyDistance(all);
        all.floatAll();
        all.addArticle(5, 6);
        Check.due("removeArticle(0)", all.removeArticle(0), 1);
        Check.due("all eight quotes are gone", all.count(1), 0);
        Check.due("the places too", all.page(0, 1) + all.page(1, 1) + all.page(2, 1), 0);
        QuoteGrid none = Check.made(Scene::eightQuotes);
        none.addArticle(300, 7);
        none.removeArticle(3);
        Check.due("an article without quotes", none.count(1), 8);
        Doc.about("Promise 3", "the other quotes stay as they are, with smaller numbers as needed.");
        for (int removed = 0; removed < 3; removed++) {
            QuoteGrid fewer = Check.made(Scene::eightQuotes);
            QuoteGrid whole = Check.made(Scene::eightQuotes);
            fewer.removeArticle(removed);
            int number = 0;
            for (int quote = 0; quote < 8; quote++) {
                int article = whole.quote(quote, 0);
                if (article != removed) {
                    int[] want = {article > removed ? article - 1 : article, whole.quote(quote, 1),
                        whole.quote(quote, 2), whole.quote(quote, 3)};
                    for (int what = 0; what < want.length; what++) {
                        Check.due("without " + removed + ", quote(" + number + ", " + what + ")",
                                fewer.quote(number, what), want[what]);
                    }
                    number++;
                }
            }
            Check.due("without " + removed + ", the quotes", fewer.count(1), number);
        }
        QuoteGrid placed = Check.made(Scene::rich);
        placed.removeArticle(0);
        Check.due("the placed one of the other article stays", placed.module(249), 21);
        Check.due("of its article with the smaller number", placed.quote(0, 0), 0);
        Check.due("one is left", placed.count(1), 1);
    }

    private static void promise4() {
        String section = "Promise 4";
        Doc.about(section, "Sets the start or the length of an article.");
        QuoteGrid grid = Check.made(Scene::sixArticles);
        grid.setArticle(2, 0, 100);
        grid.setArticle(2, 1, 20);
        for (int i = 0; i < 6; i++) {
            Check.due("the start of " + i, grid.article(i, 0), i == 2 ? 100 : Scene.STARTS[i]);
            Check.due("the length of " + i, grid.article(i, 1), i == 2 ? 20 : Scene.LENGTHS[i]);
        }
        Check.due("the layout follows", grid.lineAt(2, 19), 119);
        Doc.about(section, "This is an action.");
        Check.isAction("setArticle(1, 0, 0)", Scene::fourStates, asked -> asked.setArticle(1, 0, 0));
        Check.isAction("setArticle(1, 1, 31)", Scene::fourStates, asked -> asked.setArticle(1, 1, 31));
        Check.isAction("setArticle(1, 1, 30), as it is", Scene::fourStates, asked -> asked.setArticle(1, 1, 30));
        Doc.about(section, "(Placed quotes stay where they are, also where they would be refused now.)");
        QuoteGrid placed = Check.made(Scene::fourStates);
        Check.due("setArticle(0, 0, 60)", placed.setArticle(0, 0, 60), 0);
        Check.due("setArticle(1, 0, 0)", placed.setArticle(1, 0, 0), 340);
        Check.due("both are placed", placed.count(2), 2);
        Check.due("the first one", placed.module(110), 21);
        Check.due("the second one", placed.module(249), 22);
        Check.due("both would be refused", placed.troubled(), 2);
        Doc.about(section, "- `article`: an article");
        Check.edges("setArticle(article, 0, 9) of two", Scene::rich,
                (asked, article) -> asked.setArticle(article, 0, 9), 0, 0, 1, 340);
        Check.edges("setArticle(article, 1, 50) of six", Scene::sixArticles,
                (asked, article) -> asked.setArticle(article, 1, 50), 0, 5, 5, 10);
        Check.refuses("setArticle(0, 0, 9) of none", EMPTY, fresh -> fresh.setArticle(0, 0, 9), Check.INVALID);
        Doc.about(section, "- `what`: 0 the start, 1 the length");
        Check.edges("setArticle(1, what, 30)", Scene::rich, (asked, what) -> asked.setArticle(1, what, 30),
                0, 340, 1, 30);
    }

    private static void promise4Values() {
        String section = "Promise 4";
        Doc.about(section, "- `value`: in its range;");
        Check.edges("setArticle(0, 0, value)", Scene::sixArticles, (asked, value) -> asked.setArticle(0, 0, value),
                0, 7, 359, 7);
        Check.edges("setArticle(0, 1, value)", grid -> grid.addArticle(5, 6),
                (asked, value) -> asked.setArticle(0, 1, value), 1, 6, 200, 6);
        QuoteGrid start = Check.read("a0 200:199;");
        Check.due("a start does not care for the sentences", start.setArticle(0, 0, 3), 0);
        Doc.about(section, "a length greater than the lines of all its sentences");
        Check.edges("setArticle(0, 1, value) with line 0", grid -> Check.load(grid, "a0 9:0;"),
                (asked, value) -> asked.setArticle(0, 1, value), 1, 9, 200, 9);
        Check.edges("setArticle(0, 1, value) with line 5 first", grid -> Check.load(grid, "a0 9:5,0,3;"),
                (asked, value) -> asked.setArticle(0, 1, value), 6, 9, 200, 9);
        Check.edges("setArticle(0, 1, value) with line 5 last", grid -> Check.load(grid, "a0 9:0,3,5;a0 9:7;"),
                (asked, value) -> asked.setArticle(0, 1, value), 6, 9, 200, 9);
        Check.edges("setArticle(0, 1, value) with line 199", grid -> Check.load(grid, "a0 200:199;"),
                (asked, value) -> asked.setArticle(0, 1, value), 200, 200, 200, 200);
        Check.edges("setArticle(0, 1, value) with eight sentences", Scene::eightSentences,
                (asked, value) -> asked.setArticle(0, 1, value), 10, 10, 200, 10);
        Check.edges("setArticle(0, 1, value) with a sentence that was undone", grid -> {
            Check.load(grid, "a0 9:3;");
            grid.addSentence(0, 8);
            grid.undo();
        }, (asked, value) -> asked.setArticle(0, 1, value), 4, 9, 200, 9);
        Check.edges("setArticle(1, 1, value), overset", Scene::rich,
                (asked, value) -> asked.setArticle(1, 1, value), 21, 30, 200, 30);
        Doc.about(section, "Returns the previous value;");
        QuoteGrid grid = Check.read("a359 200;");
        Check.due("of the start", grid.setArticle(0, 0, 0), 359);
        Check.due("of the start then", grid.setArticle(0, 0, 0), 0);
        Check.due("of the length", grid.setArticle(0, 1, 1), 200);
        Check.due("of the length then", grid.setArticle(0, 1, 1), 1);
        Doc.about(section, "INVALID_ARGUMENT if an argument is out of range.");
        Check.refuses("setArticle(2, 2, -1)", Scene::rich, rich -> rich.setArticle(2, 2, -1), Check.INVALID);
        Check.refuses("setArticle(0, 2, 5)", Scene::rich, rich -> rich.setArticle(0, 2, 5), Check.INVALID);
        Check.refuses("a start that would be no length", Scene::rich, rich -> rich.setArticle(0, 1, 359), Check.INVALID);
    }

    private static void promise5() {
        String section = "Promise 5";
        Doc.about(section, "Adds a sentence.");
        QuoteGrid grid = Check.read("a0 10;a20 10:3;");
        grid.addSentence(1, 9);
        Check.due("the sentences of the article", grid.article(1, 2), 2);
        Check.due("its line", grid.sentence(1, 1, 0), 9);
        Check.due("those of the other one", grid.article(0, 2), 0);
        Doc.about(section, "This is an action.");
        Check.isAction("addSentence(0, 10), a line that has one", Scene::fourStates, asked -> asked.addSentence(0, 10));
        Check.isAction("addSentence(1, 29)", Scene::fourStates, asked -> asked.addSentence(1, 29));
        Doc.about(section, "- `article`: an article");
        Check.edges("addSentence(article, 5) of two", Scene::rich, (asked, article) -> asked.addSentence(article, 5),
                0, 2, 1, 3);
        Check.edges("addSentence(article, 4) of six", Scene::sixArticles,
                (asked, article) -> asked.addSentence(article, 4), 0, 2, 5, 2);
        Doc.about(section, "- `line`: 0 to its length less 1");
        Check.edges("addSentence(0, line)", Scene::rich, (asked, line) -> asked.addSentence(0, line), 0, 2, 59, 2);
        Check.edges("addSentence(1, line), overset", Scene::rich, (asked, line) -> asked.addSentence(1, line),
                0, 3, 29, 3);
        Check.edges("addSentence(0, line) of one line", fresh -> fresh.addArticle(0, 1),
                (asked, line) -> asked.addSentence(0, line), 0, 0, 0, 0);
        Check.edges("addSentence(0, line) of 200 lines", fresh -> fresh.addArticle(0, 200),
                (asked, line) -> asked.addSentence(0, line), 0, 0, 199, 0);
        Doc.about(section, "Returns its number;");
        QuoteGrid counted = Check.read("a0 10;");
        for (int number = 0; number < 8; number++) {
            Check.due("addSentence(0, 9)", counted.addSentence(0, 9), number);
        }
        Doc.about(section, "INVALID_ARGUMENT if an argument is out of range;");
        Check.refuses("addSentence(0, 0) of no article", EMPTY, fresh -> fresh.addSentence(0, 0), Check.INVALID);
        Check.refusesBeside("a ninth one, addSentence(0, line)", Scene::eightSentences,
                (asked, line) -> asked.addSentence(0, line), 0, 9);
        Doc.about(section, "CAPACITY_EXCEEDED if the article has 8 sentences.");
        Check.refuses("a ninth one", Scene::eightSentences, full -> full.addSentence(0, 9), Check.FULL);
        QuoteGrid full = Check.made(Scene::eightSentences);
        Check.due("another article has one", full.addSentence(1, 9), 1);
        Check.due("undo() makes room", counted.undo() + counted.addSentence(0, 9), 4 + 7);
    }
}
