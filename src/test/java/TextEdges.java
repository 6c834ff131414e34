/** The edges of the text: its length, its items and their numbers, its spaces, the error position. */
final class TextEdges {
    private static final String TEXT = "Text";
    /** With spaces wherever they may stand; each sign of it has a meaning where it stands. */
    private static final String SPACED = " a 0 10 : 1 , 9 ; q 0 1 1 x 2 ; ";
    private static final String SIX_ARTICLES = "a0 9:0;a0 9;a0 9;a0 9;a0 9;a0 9;";
    private static final String EIGHT_QUOTES = "a0 9:0;" + "q0 0 1x1;".repeat(8);

    private TextEdges() {
    }

    static void run() {
        lengths();
        articleItems();
        quoteItems();
        comeToThoseThatThereAre();
        ranges();
        rangesByWhatThereIs();
        digits();
        spaces();
        needlessSpaces();
        order();
        wrongSigns();
        wrongSignsOfAllCodes();
        wrongNumbers();
        ninthSentence();
        noRoom();
        textEnds();
        promise15();
        promise16();
        promise17();
        promise17Errors();
    }

    /** Checks that a new object answers this number of items. */
    private static void items(String text, int want) {
        QuoteGrid grid = new QuoteGrid();
        Check.type(grid, text);
        Check.due("load() of \"" + text + "\"", grid.load(), want);
        Check.due("the length of the text then", grid.count(12), 0);
    }

    /** Checks that the text has its error here, and that a new object stays as it is, with its text. */
    private static void error(String text, int position) {
        QuoteGrid grid = new QuoteGrid();
        Check.type(grid, text);
        Check.due("load() of \"" + text + "\"", grid.load(), -1000 - position);
        Check.due("the length of the text then", grid.count(12), text.length());
        Check.due("the articles, quotes and states then", grid.count(0) + grid.count(1) + grid.count(11), 0);
    }

    private static String pad(String text, int length) {
        return text + " ".repeat(length - text.length());
    }

    private static void lengths() {
        Doc.about(TEXT, "can be read from a text of at most 140 characters, a sequence of items (possibly none)");
        items("", 0);
        items(" ", 0);
        items(" ".repeat(140), 0);
        items(" ".repeat(135) + "a0 9;", 1);
        items("a0 9" + " ".repeat(135) + ";", 1);
        items(pad("a0 9:1;q0 0 1x1;", 140), 2);
        error(" ".repeat(136) + "a0 9", 140);
        error(" ".repeat(139) + ";", 139);
        QuoteGrid full = new QuoteGrid();
        Check.type(full, " ".repeat(135) + "a0 9");
        Check.due("the 140th character", full.append(';'), 140);
        Check.due("the 141st character", full.append(';'), Check.FULL);
        Check.due("load()", full.load(), 1);
        error("a0 9", 4);
        error("a0 9;a0 9", 9);
        error("a0 9 a0 9;", 5);
    }

    private static void articleItems() {
        Doc.about(TEXT, "\"a\" START LENGTH and possibly \":\" and one or more LINEs with \",\" between two of them");
        String[] texts = {"a7 10;", "a7 10:9;", "a7 10:9,0;", "a7 10:9,8,7,6,5,4,3,3;"};
        int[] sentences = {0, 1, 2, 8};
        for (int i = 0; i < texts.length; i++) {
            QuoteGrid grid = Check.read(texts[i]);
            Check.due("the start in " + texts[i], grid.article(0, 0), 7);
            Check.due("the length in " + texts[i], grid.article(0, 1), 10);
            Check.due("the sentences in " + texts[i], grid.article(0, 2), sentences[i]);
        }
        QuoteGrid grid = Check.read("a7 10:9,0,5;");
        int[] lines = {9, 0, 5};
        for (int i = 0; i < lines.length; i++) {
            Check.due("the line of " + i, grid.sentence(0, i, 0), lines[i]);
        }
        error("a7 10:;", 6);
        error("a7 10,9;", 5);
        error("a7 10:,9;", 6);
        error("a7 10:9,;", 8);
        error("a7 10:9,,8;", 8);
        error("a7 10:9:8;", 7);
        error("a7 10:9 8;", 8);
        error("a7;", 2);
        error("a;", 1);
        error("a7,10;", 2);
        error("a7 10 9;", 6);
    }

    private static void quoteItems() {
        Doc.about(TEXT, "\"q\" ARTICLE SENTENCE WIDTH \"x\" HEIGHT");
        QuoteGrid grid = Check.read("a0 9:1,2;a9 9:3;q1 0 3x6;q0 1 1x2;");
        int[][] properties = {{1, 0, 3, 6}, {0, 1, 1, 2}};
        for (int quote = 0; quote <= 1; quote++) {
            for (int what = 0; what <= 3; what++) {
                Check.due("quote(" + quote + ", " + what + ")", grid.quote(quote, what), properties[quote][what]);
            }
            Check.due("it is not placed", grid.quote(quote, 4), Check.NONE);
        }
        error("a0 9:1;q;", 8);
        error("a0 9:1;q0;", 9);
        error("a0 9:1;q0 0;", 11);
        error("a0 9:1;q0 0 1;", 13);
        error("a0 9:1;q0 0 1x;", 14);
        error("a0 9:1;q0 0 1x1 1;", 16);
        error("a0 9:1;q0 0 1:1;", 13);
        error("a0 9:1;q0,0 1x1;", 9);
        error("a0 9:1;q0 0x1;", 11);
    }

    private static void comeToThoseThatThereAre() {
        Doc.about(TEXT, "They come to those that there are.");
        QuoteGrid grid = Check.read("a3 4:1;q0 0 1x1;");
        Check.load(grid, "a5 6:2;q0 0 2x2;");
        int[][] articles = {{3, 4}, {5, 6}};
        for (int i = 0; i <= 1; i++) {
            Check.due("the start of article " + i, grid.article(i, 0), articles[i][0]);
            Check.due("the length of article " + i, grid.article(i, 1), articles[i][1]);
            Check.due("the width of quote " + i, grid.quote(i, 2), i + 1);
        }
        Check.load(grid, "a0 1;a0 1;a0 1;a0 1;");
        Check.due("up to six articles in all", grid.count(0), 6);
        Check.type(grid, "a0 1;");
        Check.due("a seventh one", grid.load(), -1000);
    }

    private static void ranges() {
        Doc.about(TEXT, "All these are numbers in their ranges (ARTICLE and SENTENCE by what there is at that time");
        items("a0 1;", 1);
        items("a359 200;", 1);
        error("a360 1;", 1);
        error("a0 0;", 3);
        error("a0 201;", 3);
        items("a0 1:0;", 1);
        error("a0 1:1;", 5);
        items("a0 200:199;", 1);
        error("a0 200:200;", 7);
        error("a0 9:8,9;", 7);
        items("a0 9:1;q0 0 1x1;", 2);
        items("a0 9:1;q0 0 3x6;", 2);
        error("a0 9:1;q0 0 0x1;", 12);
        error("a0 9:1;q0 0 4x1;", 12);
        error("a0 9:1;q0 0 1x0;", 14);
        error("a0 9:1;q0 0 1x7;", 14);
    }

    private static void rangesByWhatThereIs() {
        Doc.about(TEXT, "ARTICLE and SENTENCE by what there is at that time, LINE less than LENGTH");
        error("q0 0 1x1;", 1);
        error("a0 9;q0 0 1x1;", 8);
        error("a0 9:1;q1 0 1x1;", 8);
        error("a0 9:1;q0 1 1x1;", 10);
        error("q0 0 1x1;a0 9:1;", 1);
        error("a0 9:1;q1 0 1x1;a0 9:1;", 8);
        items("a0 9:1;a0 9:1,2;q1 1 1x1;", 3);
        error("a0 9:1;a0 9:1,2;q0 1 1x1;", 19);
        items("a0 9:1;q0 0 1x1;a0 9:1,2;q1 1 1x1;", 4);
        items(SIX_ARTICLES + "q0 0 1x1;", 7);
        error(SIX_ARTICLES + "q6 0 1x1;", SIX_ARTICLES.length() + 1);
        items("a0 9:1,2,3,4,5,6,7,8;q0 7 1x1;", 2);
        error("a0 9:1,2,3,4,5,6,7,8;q0 8 1x1;", 24);
        QuoteGrid grid = Check.read("a0 9:1;a0 9:1,2;");
        grid.removeArticle(1);
        Check.type(grid, "q1 0 1x1;");
        Check.due("an article that is gone", grid.load(), -1001);
    }

    private static void digits() {
        Doc.about(TEXT, "maximal runs of digits, the first of several not 0.");
        items("a0 1;", 1);
        error("a00 1;", 1);
        error("a01 1;", 1);
        error("a0 01;", 3);
        error("a0 9:00;", 5);
        error("a0 9:08;", 5);
        error("a0 9:1;q00 0 1x1;", 8);
        error("a0 9:1;q0 00 1x1;", 10);
        error("a0 9:1;q0 0 01x1;", 12);
        error("a0 9:1;q0 0 1x01;", 14);
        items("a10 100:10;", 1);
        error("a0100;", 1);
        error("a1000 1;", 1);
        error("a0 9:1;q001x1;", 8);
        error("a+1 9;", 1);
        error("a-1 9;", 1);
        error("a1.0 9;", 2);
    }

    private static void spaces() {
        Doc.about(TEXT, "Spaces (code 32) may stand everywhere except within numbers;");
        items(SPACED, 2);
        items(SPACED.replace(" ", "   "), 2);
        error("a1 20 0;", 6);
        error("a1 2 3;", 5);
        error("a0 1 0;", 5);
        error("a0 19:1 2;", 8);
        for (int code : new int[] {9, 10, 13, 31, 33, 160}) {
            error((char) code + "a0 9;", 0);
            error("a0" + (char) code + "9;", 2);
        }
    }

    private static void needlessSpaces() {
        Doc.about(TEXT, "they are needed only between two numbers.");
        items("a0 9:1,2;q0 1 1x2;", 2);
        error("a09;", 1);
        error("a9;", 2);
        error("a0 9:1;q00 1x2;", 8);
        error("a0 9:1;q0 01x2;", 10);
    }

    private static void order() {
        Doc.about(TEXT, "The text is read from left to right, and the items are carried out in their order.");
        QuoteGrid grid = Check.read("a5 6;a3 4:1;q1 0 1x2;q1 0 3x4;");
        Check.due("the first article", grid.article(0, 0), 5);
        Check.due("the second article", grid.article(1, 0), 3);
        Check.due("the first quote", grid.quote(0, 3), 2);
        Check.due("the second quote", grid.quote(1, 3), 4);
        error("a360 0;", 1);
        error("a0 0:x;", 3);
        error("a0 9!;b", 4);
        error("b;a360 0;", 0);
    }

    private static void wrongSigns() {
        Doc.about(TEXT, "The error position is the offset (from 0) of the first character that is not allowed");
        for (int i = 0; i < SPACED.length(); i++) {
            error(SPACED.substring(0, i) + '!' + SPACED.substring(i + 1), i);
        }
        error(";", 0);
        error("A0 9;", 0);
        error("Q0 0 1x1;", 0);
        error("a0 9:1;q0 0 1X1;", 13);
        error("a0 9;;", 5);
        error("aa0 9;", 1);
        error("9", 0);
    }

    private static void wrongSignsOfAllCodes() {
        Doc.about(TEXT, "the first character that is not allowed where it stands;");
        for (int code = 1; code <= 255; code++) {
            String sign = String.valueOf((char) code);
            if (sign.equals(" ")) {
                items(sign, 0);
            } else {
                error(sign, "aq".contains(sign) ? 1 : 0);
            }
            if (sign.equals(";")) {
                items("a0 9" + sign, 1);
            } else {
                error("a0 9" + sign, " :0123456789".contains(sign) ? 5 : 4);
            }
            if (code >= '0' && code <= '8') {
                items("a0 9:" + sign + ";", 1);
            } else {
                error("a0 9:" + sign + ";", sign.equals(" ") ? 6 : 5);
            }
        }
    }

    private static void wrongNumbers() {
        Doc.about(TEXT, "for a number that is out of its range or has a 0 ahead, its first digit;");
        String[] wrong = {"999", "1000", "00", "01", "0000000000", "99999999999999999999", "2147483648",
            "4294967296", "4294967297", "18446744073709551617", "256000"};
        for (String number : wrong) {
            error("a " + number + " 1;", 2);
            error("a0  " + number + ";", 4);
            error("a0 9: " + number + ";", 6);
            error("a0 9:1 , " + number + ";", 9);
            error("a0 9:1;q " + number + " 0 1x1;", 9);
            error("a0 9:1;q0  " + number + " 1x1;", 11);
            error("a0 9:1;q0 0  " + number + "x1;", 13);
            error("a0 9:1;q0 0 1x " + number + ";", 15);
        }
        error("a" + "9".repeat(139), 1);
        error("a" + "0".repeat(139), 1);
        error("a360", 1);
        error("a0 9:9", 5);
        error("a0 9:1;q0 0 4", 12);
    }

    private static void ninthSentence() {
        Doc.about(TEXT, "for the LINE of a ninth sentence, its first digit;");
        items("a0 20:0,1,2,3,4,5,6,7;", 1);
        error("a0 20:0,1,2,3,4,5,6,7,8;", 22);
        error("a0 20:0,1,2,3,4,5,6,7 , 18;", 24);
        error("a0 20:0,1,2,3,4,5,6,7,20;", 22);
        error("a0 20:0,1,2,3,4,5,6,7,00;", 22);
        error("a0 20:0,1,2,3,4,5,6,7,8", 22);
        error("a0 20:0,1,2,3,4,5,6,7,;", 22);
        error("a0 20:0,1,2,3,4,5,6,7,", 22);
        error("a0 1:0,0,0,0,0,0,0,0,0;", 21);
        items("a0 20:0,1,2,3,4,5,6,7;a0 20:0,1,2,3,4,5,6,7;", 2);
        error("a0 20;a0 20:0,1,2,3,4,5,6,7,8;", 28);
    }

    private static void noRoom() {
        Doc.about(TEXT, "for an item for which there is no room, its \"a\" or \"q\".");
        int six = SIX_ARTICLES.length();
        items(SIX_ARTICLES, 6);
        error(SIX_ARTICLES + "a0 9;", six);
        error(SIX_ARTICLES + "  a0 9;", six + 2);
        error(SIX_ARTICLES + "a", six);
        error(SIX_ARTICLES + "a360 0;", six);
        error(SIX_ARTICLES + "ax", six);
        error(SIX_ARTICLES + "b", six);
        items(SIX_ARTICLES + "q0 0 1x1;", 7);
        int eight = EIGHT_QUOTES.length();
        items(EIGHT_QUOTES, 9);
        error(EIGHT_QUOTES + "q0 0 1x1;", eight);
        error(EIGHT_QUOTES + "  q0 0 1x1;", eight + 2);
        error(EIGHT_QUOTES + "q", eight);
        error(EIGHT_QUOTES + "q9 0 1x1;", eight);
        items(EIGHT_QUOTES + "a0 9;", 10);
        QuoteGrid articles = Check.made(Scene::sixArticles);
        Check.type(articles, " a0 9;");
        Check.due("beside six articles that there are", articles.load(), -1001);
        articles.removeArticle(0);
        Check.due("beside five articles", articles.load(), 1);
        QuoteGrid quotes = Check.made(Scene::eightQuotes);
        Check.type(quotes, " q0 0 1x1;");
        Check.due("beside eight quotes that there are", quotes.load(), -1001);
        quotes.removeQuote(0);
        Check.due("beside seven quotes", quotes.load(), 1);
    }

    private static void textEnds() {
        Doc.about(TEXT, "If the text ends where something is missing, it is the length of the text.");
        int first = SPACED.indexOf(';');
        int last = SPACED.lastIndexOf(';');
        for (int length = 0; length <= SPACED.length(); length++) {
            String text = SPACED.substring(0, length);
            if (text.isBlank() || length == first + 1 || length == first + 2) {
                items(text, text.isBlank() ? 0 : 1);
            } else if (length > last) {
                items(text, 2);
            } else {
                error(text, length);
            }
        }
        error("a", 1);
        error("q", 1);
        error("a    ", 5);
        error(pad("a0 9", 140), 140);
    }

    private static void promise15() {
        String section = "Promise 15";
        Doc.about(section, "`int append(int character)`: Appends a character to the text.");
        QuoteGrid grid = new QuoteGrid();
        Check.type(grid, "a0 ");
        grid.append('7');
        grid.append(';');
        Check.due("load() of what was appended", grid.load(), 1);
        Check.due("the length in it", grid.article(0, 1), 7);
        Doc.about(section, "- `character`: character code, 1 to 255");
        Check.edges("append(character)", fresh -> { }, QuoteGrid::append, 1, 1, 255, 1);
        Check.edges("append(character)", Scene::rich, QuoteGrid::append, 1, 7, 255, 7);
        Doc.about(section, "Returns the new length of the text;");
        QuoteGrid counted = new QuoteGrid();
        for (int length = 1; length <= 140; length++) {
            Check.due("append(32)", counted.append(32), length);
            Check.due("count(12)", counted.count(12), length);
        }
        Check.due("clearText()", counted.clearText(), 140);
        Check.due("append(32) then", counted.append(32), 1);
        Doc.about(section, "INVALID_ARGUMENT if character is out of range;");
        Check.refusesBeside("append(character) to a full text", TextEdges::fullText, QuoteGrid::append, 1, 255);
        Doc.about(section, "CAPACITY_EXCEEDED if the text already has 140 characters.");
        Check.due("the 140th character", Check.made(g -> Check.type(g, " ".repeat(139))).append(1), 140);
        Check.refuses("append(1) to a full text", TextEdges::fullText, full -> full.append(1), Check.FULL);
        Check.refuses("append(255) to a full text", TextEdges::fullText, full -> full.append(255), Check.FULL);
    }

    private static void fullText(QuoteGrid grid) {
        Check.type(grid, pad("a0 9:1;q0 0 1x1;", 140));
    }

    private static void promise16() {
        String section = "Promise 16";
        Doc.about(section, "Makes the text empty.");
        QuoteGrid grid = new QuoteGrid();
        Check.type(grid, "a0");
        grid.clearText();
        Check.due("the length", grid.count(12), 0);
        Check.type(grid, "a0 9;");
        Check.due("load() of what came then", grid.load(), 1);
        Doc.about(section, "Returns the previous length of the text.");
        Check.due("of a full text", Check.made(TextEdges::fullText).clearText(), 140);
        Check.due("of an empty text", new QuoteGrid().clearText(), 0);
        Check.type(grid, "a");
        Check.due("of one character", grid.clearText(), 1);
        Check.due("again", grid.clearText(), 0);
        Check.type(grid, "a0 9;");
        grid.load();
        Check.due("of a text that was read", grid.clearText(), 0);
    }

    private static void promise17() {
        String section = "Promise 17";
        Doc.about(section, "`int load()`: Reads the text.");
        QuoteGrid grid = Check.read("a7 8:6;q0 0 2x5;");
        Check.due("the articles", grid.count(0), 1);
        Check.due("the quotes", grid.count(1), 1);
        Doc.about(section, "The text becomes empty.");
        Check.due("the text", grid.count(12), 0);
        Check.due("load() again", grid.load(), 0);
        QuoteGrid full = Check.made(TextEdges::fullText);
        Check.due("load() of a full text", full.load(), 2);
        Check.due("the text then", full.count(12), 0);
        Doc.about(section, "This is one action, also without items.");
        Check.isAction("load() of nothing", Scene::fourStates, QuoteGrid::load);
        Check.isAction("load() of spaces", before -> Check.type(before, "   "), QuoteGrid::load);
        Check.isAction("load() of ten items", before -> Check.type(before, EIGHT_QUOTES + "a0 9;"), QuoteGrid::load);
        Doc.about(section, "Returns the number of items;");
        items("", 0);
        items("a0 9;", 1);
        items("a0 9:1,2,3;q0 2 1x1;", 2);
        items("a0 1:0;a0 1;a0 1;a0 1;a0 1;a0 1;" + "q0 0 1x1;".repeat(8), 14);
        QuoteGrid more = Check.made(Scene::sixArticles);
        Check.type(more, "q0 0 1x1;q5 1 1x1;");
        Check.due("of those in the text alone", more.load(), 2);
    }

    private static void promise17Errors() {
        Doc.about("Promise 17", "-1000 minus the error position if the text has an error (then nothing changes");
        error("b", 0);
        error("a", 1);
        error(pad("a0 9;a", 140), 140);
        Check.refuses("load() with an error at its beginning", before -> withText(before, "b"), QuoteGrid::load, -1000);
        Check.refuses("load() with an error in its last item", before -> withText(before, "a3 3:2;q0 0 1x1;q3 0 1x1;"),
                QuoteGrid::load, -1017);
        Check.refuses("load() with its end missing", before -> withText(before, "a3 3:2;q0 0 1x1"), QuoteGrid::load,
                -1015);
        Check.refuses("load() of a ninth quote", before -> {
            Scene.eightQuotes(before);
            Check.type(before, "a1 1;q0 0 1x1;");
        }, QuoteGrid::load, -1005);
        QuoteGrid kept = new QuoteGrid();
        Check.type(kept, "a0 9:1");
        Check.due("load() of half an item", kept.load(), -1006);
        Check.due("the text is kept", kept.append(';'), 7);
        Check.due("load() of the whole item", kept.load(), 1);
    }

    private static void withText(QuoteGrid grid, String text) {
        Scene.rich(grid);
        grid.clearText();
        Check.type(grid, text);
    }
}
