/** Promises 18 to 24: looking, with the layout that it shows. */
public final class LookingTest {
    public static void main(String[] args) {
        promise18Count();
        promise19Article();
        promise19Jumps();
        promise19Overset();
        promise20LineAt();
        promise21Sentence();
        promise22Quote();
        promise23Module();
        promise24Page();
        Check.end();
    }

    private static void jumping(QuoteGrid grid) {
        Check.type(grid, "a110 30:9,10,29;q0 1 2x3;");
        grid.load();
    }

    private static void promise18Count() {
        QuoteGrid grid = Check.read("a100 200:0;a350 20:9;q0 0 1x1;q0 0 1x2;");
        grid.setRule(0, 2);
        grid.setRule(1, 15);
        grid.setRule(2, 3);
        grid.place(0, 1, 5, 19);
        grid.take(1);
        Check.type(grid, "abc");
        // 100 to 119, a notice at 120, 121 to 238, the quote at 239, a notice at 240, 241 to 302.
        int[] counts = {2, 2, 1, 2, 15, 3, 10, 2, 202 + 10 + 1, 1, 1, 5, 3};
        for (int what = 0; what < counts.length; what++) {
            Check.due("count(" + what + ")", grid.count(what), counts[what]);
        }
        grid.undo();
        Check.due("count(7) of another layout", grid.count(7), 2);
        Check.due("count(8) with the first module", Check.read("a0 7;").count(8), 7);
        Check.due("count(8) with the last module", Check.read("a355 7;").count(8), 5);
        QuoteGrid fewer = Check.read("a0 7;a350 20;");
        fewer.removeArticle(1);
        Check.due("count(6) without the last article", fewer.count(6), 0);
        for (int what : new int[] {-1, 13, Integer.MIN_VALUE, Integer.MAX_VALUE}) {
            Check.refuses("count(" + what + ")", LookingTest::jumping, g -> g.count(what), Check.INVALID);
        }
    }

    private static void promise19Article() {
        QuoteGrid grid = new QuoteGrid();
        jumping(grid);
        grid.addArticle(5, 1);
        int[] properties = {110, 30, 3, 0, 1, 110, 140};
        int[] others = {5, 1, 0, 0, 0, 5, 5};
        for (int what = 0; what < properties.length; what++) {
            Check.due("article(0, " + what + ")", grid.article(0, what), properties[what]);
            Check.due("article(1, " + what + ")", grid.article(1, what), others[what]);
        }
        refusesArticle(1, 0);
        refusesArticle(-1, 0);
        refusesArticle(0, -1);
        refusesArticle(0, 7);
        for (int far : Check.FAR_OUT) {
            refusesArticle(far, 0);
            refusesArticle(0, far);
        }
    }

    private static void refusesArticle(int article, int what) {
        Check.refuses("article(" + article + ", " + what + ")", LookingTest::jumping,
                grid -> grid.article(article, what), Check.INVALID);
    }

    private static void promise19Jumps() {
        QuoteGrid full = Check.read("a120 119;a100 30;");
        Check.due("a jump to the only module of a page", full.module(239), 12);
        Check.due("and from there to the next page", full.module(240), 12);
        Check.due("two jumps", full.article(1, 4), 2);
        Check.due("the first line behind them", full.lineAt(1, 20), 241);
        Check.due("the last line", full.article(1, 6), 250);
        QuoteGrid later = Check.read("a0 120;a50 5;");
        Check.due("no jump from a page without a line", later.article(1, 4), 0);
        Check.due("the first line on the second page", later.article(1, 5), 120);
        QuoteGrid skipping = Check.read("a120 120;a119 2;");
        Check.due("a jump over a page", skipping.article(1, 4), 1);
        Check.due("the notice on the third page", skipping.module(240), 12);
        Check.due("the last line there", skipping.article(1, 6), 241);
        QuoteGrid ending = Check.read("a100 20;");
        Check.due("no jump at the end of a page", ending.article(0, 4), 0);
        QuoteGrid last = Check.read("a240 119;a239 2;");
        Check.due("a jump that no line follows", last.article(1, 4), 1);
        Check.due("at the last module", last.module(359), 12);
        Check.due("its second line is overset", last.article(1, 3), 1);
        Check.due("its last line that is not", last.article(1, 6), 239);
    }

    private static void promise19Overset() {
        QuoteGrid grid = Check.read("a350 20;a340 15;a355 3;");
        Check.due("overset by", grid.article(0, 3), 10);
        Check.due("the last module", grid.article(0, 6), 359);
        Check.due("the next one", grid.article(1, 3), 5);
        Check.due("its last line", grid.article(1, 6), 349);
        Check.due("all overset", grid.article(2, 3), 3);
        Check.due("no first line", grid.article(2, 5), Check.NONE);
        Check.due("no last line", grid.article(2, 6), Check.NONE);
        Check.due("in all", grid.count(6), 18);
        Check.due("the lower number comes first", grid.module(355), 1);
    }

    private static void promise20LineAt() {
        QuoteGrid grid = Check.read("a350 20;a118 4;");
        Check.due("lineAt(0, 0)", grid.lineAt(0, 0), 350);
        Check.due("lineAt(0, 9)", grid.lineAt(0, 9), 359);
        Check.due("lineAt(0, 10)", grid.lineAt(0, 10), Check.NONE);
        Check.due("lineAt(0, 19)", grid.lineAt(0, 19), Check.NONE);
        Check.due("lineAt(1, 1)", grid.lineAt(1, 1), 119);
        Check.due("lineAt(1, 2), behind the notice", grid.lineAt(1, 2), 121);
        refusesLineAt(0, 30);
        refusesLineAt(0, -1);
        refusesLineAt(1, 0);
        refusesLineAt(-1, 0);
        for (int far : Check.FAR_OUT) {
            refusesLineAt(far, 0);
            refusesLineAt(0, far);
        }
    }

    private static void refusesLineAt(int article, int line) {
        Check.refuses("lineAt(" + article + ", " + line + ")", LookingTest::jumping,
                grid -> grid.lineAt(article, line), Check.INVALID);
    }

    private static void promise21Sentence() {
        QuoteGrid grid = new QuoteGrid();
        jumping(grid);
        Check.due("sentence(0, 0, 0)", grid.sentence(0, 0, 0), 9);
        Check.due("sentence(0, 0, 1)", grid.sentence(0, 0, 1), 119);
        Check.due("sentence(0, 1, 1)", grid.sentence(0, 1, 1), 121);
        Check.due("sentence(0, 2, 1)", grid.sentence(0, 2, 1), 140);
        grid.setArticle(0, 0, 340);
        Check.due("sentence(0, 2, 0), overset", grid.sentence(0, 2, 0), 29);
        Check.due("sentence(0, 2, 1), overset", grid.sentence(0, 2, 1), Check.NONE);
        refusesSentence(1, 0, 0);
        refusesSentence(-1, 0, 0);
        refusesSentence(0, 3, 0);
        refusesSentence(0, -1, 0);
        refusesSentence(0, 0, 2);
        refusesSentence(0, 0, -1);
        for (int far : Check.FAR_OUT) {
            refusesSentence(far, 0, 0);
            refusesSentence(0, far, 0);
            refusesSentence(0, 0, far);
        }
    }

    private static void refusesSentence(int article, int sentence, int what) {
        Check.refuses("sentence(" + article + ", " + sentence + ", " + what + ")", LookingTest::jumping,
                grid -> grid.sentence(article, sentence, what), Check.INVALID);
    }

    private static void promise22Quote() {
        QuoteGrid grid = new QuoteGrid();
        jumping(grid);
        grid.addQuote(0, 0, 1, 1);
        Check.due("place(0, 1, 3, 4)", grid.place(0, 1, 3, 4), 6);
        // Its sentence begins at module 121: column 0, row 1.
        int[] properties = {0, 1, 2, 3, 1, 3, 4, 3};
        for (int what = 0; what < properties.length; what++) {
            Check.due("quote(0, " + what + ")", grid.quote(0, what), properties[what]);
        }
        for (int what = 4; what <= 7; what++) {
            Check.due("quote(1, " + what + "), not placed", grid.quote(1, what), Check.NONE);
        }
        grid.place(0, 1, 1, 10);
        Check.due("the distance by rows", grid.quote(0, 7), 9);
        grid.place(0, 0, 0, 0);
        Check.due("no distance from a sentence on another page", grid.quote(0, 7), Check.NONE);
        grid.setArticle(0, 0, 355);
        Check.due("no distance from an overset sentence", grid.quote(0, 7), Check.NONE);
        // Line 10 goes around the first three modules: column 0, row 13, below the quote.
        grid.setArticle(0, 0, 0);
        Check.due("the distance from a sentence below", grid.quote(0, 7), 11);
        refusesQuote(1, 0);
        refusesQuote(-1, 0);
        refusesQuote(0, -1);
        refusesQuote(0, 8);
        for (int far : Check.FAR_OUT) {
            refusesQuote(far, 0);
            refusesQuote(0, far);
        }
    }

    private static void refusesQuote(int quote, int what) {
        Check.refuses("quote(" + quote + ", " + what + ")", LookingTest::jumping,
                grid -> grid.quote(quote, what), Check.INVALID);
    }

    private static void promise23Module() {
        QuoteGrid grid = new QuoteGrid();
        jumping(grid);
        grid.addArticle(117, 5);
        grid.place(0, 1, 3, 4);
        Check.due("module(109)", grid.module(109), 0);
        Check.due("module(110)", grid.module(110), 1);
        Check.due("module(120)", grid.module(120), 11);
        Check.due("module(140)", grid.module(140), 1);
        Check.due("module(141), article 1 without a line ahead", grid.module(141), 2);
        Check.due("module(145)", grid.module(145), 2);
        Check.due("module(146)", grid.module(146), 0);
        for (int module : new int[] {184, 185, 186, 204, 205, 206}) {
            Check.due("module(" + module + ")", grid.module(module), 21);
        }
        for (int module : new int[] {183, 187, 203, 207, 164, 224, 359, 0}) {
            Check.due("module(" + module + ")", grid.module(module), 0);
        }
        for (int module : new int[] {-1, 360, Integer.MIN_VALUE, Integer.MAX_VALUE}) {
            Check.refuses("module(" + module + ")", LookingTest::jumping, g -> g.module(module), Check.INVALID);
        }
    }

    private static void promise24Page() {
        QuoteGrid grid = new QuoteGrid();
        jumping(grid);
        grid.place(0, 1, 3, 4);
        int[][] pages = {{0, 0, 10}, {6, 6, 21}, {0, 0, 0}};
        for (int page = 0; page < 3; page++) {
            for (int what = 0; what <= 2; what++) {
                Check.due("page(" + page + ", " + what + ")", grid.page(page, what), pages[page][what]);
            }
        }
        grid.place(0, 1, 2, 4);
        Check.due("a quote on both halves", grid.page(1, 0), 0);
        Check.due("its modules", grid.page(1, 1), 6);
        grid.place(0, 1, 1, 4);
        Check.due("a quote on the left", grid.page(1, 0), 6);
        refusesPage(3, 0);
        refusesPage(-1, 0);
        refusesPage(0, -1);
        refusesPage(0, 3);
        for (int far : Check.FAR_OUT) {
            refusesPage(far, 0);
            refusesPage(0, far);
        }
    }

    private static void refusesPage(int page, int what) {
        Check.refuses("page(" + page + ", " + what + ")", LookingTest::jumping,
                grid -> grid.page(page, what), Check.INVALID);
    }
}
