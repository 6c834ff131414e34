/** Promises 2 to 5: articles and sentences; promise 1 is all edge, and stands in ArticleEdges. */
public final class ArticlesTest {
    public static void main(String[] args) {
        promise2AddArticle();
        promise3RemoveArticle();
        promise4SetArticle();
        promise4SetArticleKeepsPlacedQuotes();
        promise5AddSentence();
        Check.end();
    }

    private static void promise2AddArticle() {
        QuoteGrid grid = new QuoteGrid();
        Check.due("addArticle(0, 1)", grid.addArticle(0, 1), 0);
        Check.due("addArticle(359, 200)", grid.addArticle(359, 200), 1);
        Check.due("addArticle(5, 3)", grid.addArticle(5, 3), 2);
        Check.due("article(1, 0)", grid.article(1, 0), 359);
        Check.due("article(1, 1)", grid.article(1, 1), 200);
        Check.due("article(2, 2)", grid.article(2, 2), 0);
        Check.due("addArticle is an action", grid.count(11), 3);
        for (int i = 3; i < 6; i++) {
            Check.due("addArticle as number " + i, grid.addArticle(10, 10), i);
        }
        Check.due("six articles", grid.count(0), 6);
        Check.due("undo takes the sixth article away", grid.undo(), 4);
        Check.due("five articles", grid.count(0), 5);
        refusesArticle(0, 0, Check.INVALID);
        refusesArticle(0, 201, Check.INVALID);
        refusesArticle(-1, 1, Check.INVALID);
        refusesArticle(360, 1, Check.INVALID);
        for (int far : Check.FAR_OUT) {
            refusesArticle(far, 1, Check.INVALID);
            refusesArticle(1, far, Check.INVALID);
        }
        refusesSeventhArticle(0, 1, Check.FULL);
        refusesSeventhArticle(0, 0, Check.INVALID);
        refusesSeventhArticle(360, 5, Check.INVALID);
    }

    private static void refusesArticle(int start, int length, int want) {
        Check.refuses("addArticle(" + start + ", " + length + ")", grid -> grid.addArticle(3, 4),
                grid -> grid.addArticle(start, length), want);
    }

    private static void refusesSeventhArticle(int start, int length, int want) {
        Check.refuses("a seventh addArticle(" + start + ", " + length + ")", ArticlesTest::addSix,
                grid -> grid.addArticle(start, length), want);
    }

    private static void addSix(QuoteGrid grid) {
        for (int i = 0; i < 6; i++) {
            grid.addArticle(i * 20, 10);
        }
    }

    private static void threeArticlesWithQuotes(QuoteGrid grid) {
        Check.type(grid, "a0 10:1,2;a40 20:3;a80 30:4,5,6;q1 0 1x1;q2 1 1x2;q0 1 2x1;q1 0 1x3;q2 2 3x1;");
        grid.load();
        grid.setRule(0, 0);
        grid.setRule(1, 20);
        grid.place(1, 0, 5, 10);
    }

    private static void promise3RemoveArticle() {
        QuoteGrid grid = new QuoteGrid();
        threeArticlesWithQuotes(grid);
        Check.due("placed before", grid.count(2), 1);
        Check.due("removeArticle(1)", grid.removeArticle(1), 2);
        Check.due("quotes then", grid.count(1), 3);
        int[][] quotes = {{1, 1, 1, 2, 0, 5, 10}, {0, 1, 2, 1, -99, -99, -99}, {1, 2, 3, 1, -99, -99, -99}};
        for (int quote = 0; quote < quotes.length; quote++) {
            for (int what = 0; what < 7; what++) {
                Check.due("quote(" + quote + ", " + what + ") then", grid.quote(quote, what), quotes[quote][what]);
            }
        }
        Check.due("the article behind it has a smaller number", grid.article(1, 0), 80);
        Check.due("with its length", grid.article(1, 1), 30);
        Check.due("with its sentences", grid.article(1, 2), 3);
        Check.due("a sentence of it", grid.sentence(1, 2, 0), 6);
        Check.due("the article ahead stays", grid.article(0, 1), 10);
        Check.due("the modules are free", grid.module(40), 0);
        Check.due("the article behind it shows in its modules", grid.module(80), 2);
        Check.due("removeArticle is an action", grid.count(11), 5);
        grid.undo();
        Check.due("undo brings the article back", grid.article(1, 0), 40);
        Check.due("and its quotes", grid.count(1), 5);
        grid.removeArticle(2);
        Check.due("removeArticle(1)", grid.removeArticle(1), 1);
        Check.due("removeArticle(0)", grid.removeArticle(0), 0);
        Check.due("no quote is left", grid.count(1), 0);
        Check.due("a new article has no sentences", grid.addArticle(0, 9), 0);
        Check.due("a new article has no sentences", grid.article(0, 2), 0);
        for (int article : new int[] {-1, 3, 6, Integer.MIN_VALUE, Integer.MAX_VALUE}) {
            Check.refuses("removeArticle(" + article + ")", ArticlesTest::threeArticlesWithQuotes,
                    g -> g.removeArticle(article), Check.INVALID);
        }
    }

    private static void promise4SetArticle() {
        QuoteGrid grid = Check.read("a0 10:1,7,2;a40 20;");
        Check.due("setArticle(0, 0, 359)", grid.setArticle(0, 0, 359), 0);
        Check.due("setArticle(0, 0, 7)", grid.setArticle(0, 0, 7), 359);
        Check.due("setArticle(0, 1, 8)", grid.setArticle(0, 1, 8), 10);
        Check.due("setArticle(0, 1, 200)", grid.setArticle(0, 1, 200), 8);
        Check.due("setArticle(1, 1, 1)", grid.setArticle(1, 1, 1), 20);
        Check.due("setArticle(1, 1, 1) again", grid.setArticle(1, 1, 1), 1);
        Check.due("the start of 0", grid.article(0, 0), 7);
        Check.due("the length of 0", grid.article(0, 1), 200);
        Check.due("the layout follows", grid.lineAt(0, 0), 7);
        Check.due("setArticle is an action", grid.count(11), 5);
        grid.undo();
        Check.due("also where nothing changes", grid.article(1, 1), 1);
        grid.undo();
        Check.due("undo brings the length back", grid.article(1, 1), 20);
        QuoteGrid descending = Check.read("a0 10:7,1;");
        Check.due("a length that the first sentence forbids", descending.setArticle(0, 1, 7), Check.INVALID);
        Check.due("a length that it allows", descending.setArticle(0, 1, 8), 10);
        descending.removeArticle(0);
        descending.addArticle(0, 10);
        Check.due("sentences that are gone forbid nothing", descending.setArticle(0, 1, 1), 10);
        refusesSetting(2, 0, 5);
        refusesSetting(-1, 0, 5);
        refusesSetting(0, 2, 5);
        refusesSetting(1, 2, 5);
        refusesSetting(0, -1, 5);
        refusesSetting(0, 0, -1);
        refusesSetting(0, 0, 360);
        refusesSetting(0, 1, 0);
        refusesSetting(0, 1, 201);
        refusesSetting(0, 1, 7);
        refusesSetting(1, 1, 0);
        for (int far : Check.FAR_OUT) {
            refusesSetting(far, 0, 5);
            refusesSetting(0, far, 5);
            refusesSetting(0, 0, far);
            refusesSetting(0, 1, far);
        }
    }

    private static void refusesSetting(int article, int what, int value) {
        Check.refuses("setArticle(" + article + ", " + what + ", " + value + ")", grid -> {
            Check.type(grid, "a0 10:1,7,2;a40 20;");
            grid.load();
        }, grid -> grid.setArticle(article, what, value), Check.INVALID);
    }

    private static void promise4SetArticleKeepsPlacedQuotes() {
        QuoteGrid grid = Check.read("a0 60:50;q0 0 1x1;");
        Check.due("place(0, 0, 5, 10)", grid.place(0, 0, 5, 10), 1);
        Check.due("troubled() before", grid.troubled(), 0);
        Check.due("setArticle(0, 0, 60)", grid.setArticle(0, 0, 60), 0);
        Check.due("the quote stays", grid.module(110), 21);
        Check.due("it is placed", grid.count(2), 1);
        Check.due("it would be refused now", grid.troubled(), 1);
    }

    private static void promise5AddSentence() {
        QuoteGrid grid = Check.read("a0 10;a40 20:3;");
        Check.due("addSentence(0, 9)", grid.addSentence(0, 9), 0);
        Check.due("addSentence(0, 0)", grid.addSentence(0, 0), 1);
        Check.due("addSentence(0, 9), the same line", grid.addSentence(0, 9), 2);
        Check.due("addSentence(1, 19)", grid.addSentence(1, 19), 1);
        Check.due("the line of (0, 0)", grid.sentence(0, 0, 0), 9);
        Check.due("the line of (0, 1)", grid.sentence(0, 1, 0), 0);
        Check.due("the line of (1, 1)", grid.sentence(1, 1, 0), 19);
        Check.due("addSentence is an action", grid.count(11), 5);
        for (int i = 3; i < 8; i++) {
            Check.due("addSentence as number " + i, grid.addSentence(0, i), i);
        }
        Check.due("undo takes the eighth away", grid.undo(), 4);
        Check.due("seven sentences", grid.article(0, 2), 7);
        refusesSentence(1, 0, Check.INVALID);
        refusesSentence(-1, 0, Check.INVALID);
        refusesSentence(0, -1, Check.INVALID);
        refusesSentence(0, 10, Check.INVALID);
        refusesSentence(0, 9, Check.FULL);
        for (int far : Check.FAR_OUT) {
            refusesSentence(far, 0, Check.INVALID);
            refusesSentence(0, far, Check.INVALID);
        }
    }

    private static void refusesSentence(int article, int line, int want) {
        Check.refuses("a ninth addSentence(" + article + ", " + line + ")", grid -> {
            Check.type(grid, "a0 10:0,1,2,3,4,5,6,7;");
            grid.load();
        }, grid -> grid.addSentence(article, line), want);
    }
}
