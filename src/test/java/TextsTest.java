/** Promises 15 to 17: the text. */
public final class TextsTest {
    public static void main(String[] args) {
        promise15Append();
        promise16ClearText();
        promise17Load();
        promise17LoadComesToWhatIsThere();
        promise17Spaces();
        promise17WrongSigns();
        promise17MissingSigns();
        promise17WrongNumbers();
        promise17NoRoom();
        promise17ErrorChangesNothing();
        Check.end();
    }

    private static void promise15Append() {
        QuoteGrid grid = new QuoteGrid();
        Check.due("append(1)", grid.append(1), 1);
        Check.due("append(255)", grid.append(255), 2);
        for (int length = 3; length <= 140; length++) {
            Check.due("append(32)", grid.append(32), length);
        }
        Check.due("append is no action", grid.count(11), 0);
        for (int character : new int[] {0, 256, -1, Integer.MIN_VALUE, Integer.MAX_VALUE}) {
            Check.refuses("append(" + character + ")", g -> g.append(97), g -> g.append(character), Check.INVALID);
            Check.due("append(" + character + ") to a full text", grid.append(character), Check.INVALID);
        }
        Check.refuses("append(32) to a full text", g -> Check.type(g, " ".repeat(140)), g -> g.append(32), Check.FULL);
    }

    private static void promise16ClearText() {
        QuoteGrid grid = new QuoteGrid();
        Check.type(grid, "a0 5");
        Check.due("clearText()", grid.clearText(), 4);
        Check.due("the length", grid.count(12), 0);
        Check.due("clearText() again", grid.clearText(), 0);
        Check.due("clearText is no action", grid.count(11), 0);
        Check.due("load() of nothing", grid.load(), 0);
    }

    private static void promise17Load() {
        QuoteGrid grid = new QuoteGrid();
        Check.type(grid, "a0 10:0,9,9;a359 200;q0 2 3x6;q0 0 1x1;");
        Check.due("load()", grid.load(), 4);
        Check.due("the text is empty", grid.count(12), 0);
        Check.due("one action", grid.count(11), 1);
        Check.due("the articles", grid.count(0), 2);
        Check.due("the sentences", grid.article(0, 2), 3);
        Check.due("a line", grid.sentence(0, 1, 0), 9);
        Check.due("a start", grid.article(1, 0), 359);
        Check.due("a length", grid.article(1, 1), 200);
        Check.due("no sentences", grid.article(1, 2), 0);
        int[] properties = {0, 2, 3, 6, -99, -99, -99, -99};
        for (int what = 0; what < properties.length; what++) {
            Check.due("quote(0, " + what + ")", grid.quote(0, what), properties[what]);
        }
        Check.due("load() without items", grid.load(), 0);
        Check.due("is an action", grid.count(11), 2);
        grid.undo();
        grid.undo();
        Check.due("undo takes all items away", grid.count(0) + grid.count(1), 0);
    }

    private static void promise17LoadComesToWhatIsThere() {
        QuoteGrid grid = new QuoteGrid();
        grid.addArticle(3, 30);
        grid.addSentence(0, 4);
        Check.type(grid, "a50 5:1;q0 0 1x1;q1 0 1x2;");
        Check.due("load()", grid.load(), 3);
        Check.due("the article ahead stays", grid.article(0, 0), 3);
        Check.due("the new one is behind it", grid.article(1, 0), 50);
        Check.due("a quote of the old one", grid.quote(0, 0), 0);
        Check.due("a quote of the new one", grid.quote(1, 0), 1);
    }

    private static void promise17Spaces() {
        Check.due("only spaces", Check.loading("   "), 0);
        Check.due("spaces everywhere", Check.loading("  a  0  9  :  1  ,  2  ;  q  0  1  1  x  2  ;  "), 2);
        Check.due("as few as can be", Check.loading("a0 9:1,2;q0 1 1x2;"), 2);
        Check.due("a space within a number", Check.loading("a1 2 9;"), -1005);
        Check.due("a tabulator is no space", Check.loading("\ta0 9;"), -1000);
    }

    private static void promise17WrongSigns() {
        Check.due("b", Check.loading("b"), -1000);
        Check.due("sign 1", Check.loading("\u0001"), -1000);
        Check.due("sign 255", Check.loading("a0 9\u00ff"), -1004);
        Check.due("A", Check.loading("A0 9;"), -1000);
        Check.due(";", Check.loading(";"), -1000);
        Check.due("spaces, then ;", Check.loading("  ;"), -1002);
        Check.due("a second ;", Check.loading("a0 9;;"), -1005);
        Check.due("x for START", Check.loading("ax"), -1001);
        Check.due("- for START", Check.loading("a-1 9;"), -1001);
        Check.due("; for LENGTH", Check.loading("a0;"), -1002);
        Check.due(", for :", Check.loading("a0 9,1;"), -1004);
        Check.due("a third number", Check.loading("a0 9 1;"), -1005);
        Check.due("no LINE", Check.loading("a0 9:;"), -1005);
        Check.due("no LINE behind ,", Check.loading("a0 9:1,;"), -1007);
        Check.due("two LINEs without ,", Check.loading("a0 9:1 2;"), -1007);
        Check.due("a second :", Check.loading("a0 9:1:2;"), -1006);
        Check.due(", for x", Check.loading("a0 9:1;q0 0 1,1;"), -1013);
        Check.due("X for x", Check.loading("a0 9:1;q0 0 1X1;"), -1013);
        Check.due("a number for x", Check.loading("a0 9:1;q0 0 1 1;"), -1014);
        Check.due("x for WIDTH", Check.loading("a0 9:1;q0 0 x1;"), -1012);
        Check.due("; for HEIGHT", Check.loading("a0 9:1;q0 0 1x;"), -1014);
        Check.due("a number behind HEIGHT", Check.loading("a0 9:1;q0 0 1x1 1;"), -1016);
        Check.due("a for a quote", Check.loading("a0 9:1;q0 0 1x1a"), -1015);
        Check.due("a ninth , without a number", Check.loading("a0 9:0,1,2,3,4,5,6,7,;"), -1021);
    }

    private static void promise17MissingSigns() {
        String whole = "a0 9:1,2;q0 1 1x2;";
        for (int length = 1; length < whole.length(); length++) {
            if (length != whole.indexOf(';') + 1) {
                Check.due("the first " + length, Check.loading(whole.substring(0, length)), -1000 - length);
            }
        }
        Check.due("the first item", Check.loading("a0 9:1,2;"), 1);
        Check.due("spaces at the end", Check.loading("a0 9  "), -1006);
        Check.due("a number out of range at the end", Check.loading("a360"), -1001);
    }

    private static void promise17WrongNumbers() {
        Check.due("START 359", Check.loading("a359 1;"), 1);
        Check.due("START 360", Check.loading("a 360 1;"), -1002);
        Check.due("START 00", Check.loading("a00 1;"), -1001);
        Check.due("START 01", Check.loading("a01 1;"), -1001);
        Check.due("a long START", Check.loading("a4294967296 1;"), -1001);
        Check.due("a very long START", Check.loading("a" + "9".repeat(139)), -1001);
        Check.due("LENGTH 0", Check.loading("a0 0;"), -1003);
        Check.due("LENGTH 200", Check.loading("a0 200;"), 1);
        Check.due("LENGTH 201", Check.loading("a0 201;"), -1003);
        Check.due("LENGTH 05", Check.loading("a0 05;"), -1003);
        Check.due("LINE 8 of 9", Check.loading("a0 9:8;"), 1);
        Check.due("LINE 9 of 9", Check.loading("a0 9:9;"), -1005);
        Check.due("LINE 00", Check.loading("a0 9:00;"), -1005);
        Check.due("ARTICLE 0 of none", Check.loading("q0 0 1x1;"), -1001);
        Check.due("ARTICLE 1 of one", Check.loading("a0 9:1;q1 0 1x1;"), -1008);
        Check.due("ARTICLE that comes later", Check.loading("q0 0 1x1;a0 9:1;"), -1001);
        Check.due("SENTENCE 0 of none", Check.loading("a0 9;q0 0 1x1;"), -1008);
        Check.due("SENTENCE 1 of one", Check.loading("a0 9:1;q0 1 1x1;"), -1010);
        Check.due("WIDTH 0", Check.loading("a0 9:1;q0 0 0x1;"), -1012);
        Check.due("WIDTH 3", Check.loading("a0 9:1;q0 0 3x1;"), 2);
        Check.due("WIDTH 4", Check.loading("a0 9:1;q0 0 4x1;"), -1012);
        Check.due("HEIGHT 0", Check.loading("a0 9:1;q0 0 1x0;"), -1014);
        Check.due("HEIGHT 6", Check.loading("a0 9:1;q0 0 1x6;"), 2);
        Check.due("HEIGHT 7", Check.loading("a0 9:1;q0 0 1x7;"), -1014);
    }

    private static void promise17NoRoom() {
        Check.due("eight sentences", Check.loading("a0 9:0,1,2,3,4,5,6,7;"), 1);
        Check.due("a ninth sentence", Check.loading("a0 9:0,1,2,3,4,5,6,7, 8;"), -1022);
        Check.due("six articles", Check.loading("a0 9;a0 9;a0 9;a0 9;a0 9;a0 9;"), 6);
        Check.due("a seventh article", Check.loading("a0 9;a0 9;a0 9;a0 9;a0 9;a0 9; a0 9;"), -1031);
        Check.due("a seventh article that is wrong", Check.loading("a0 9;a0 9;a0 9;a0 9;a0 9;a0 9;ax"), -1030);
        String quotes = "q0 0 1x1;".repeat(8);
        Check.due("eight quotes", Check.loading("a0 9:0;" + quotes), 9);
        Check.due("a ninth quote", Check.loading("a0 9:0;" + quotes + " q0 0 1x1;"), -1080);
        Check.due("a ninth quote that is wrong", Check.loading("a0 9:0;" + quotes + "q"), -1079);
    }

    private static void promise17ErrorChangesNothing() {
        Check.refuses("load() with an error in the last item", grid -> {
            Check.type(grid, "a7 7:6;");
            grid.load();
            Check.type(grid, "a0 9:1;q1 0 1x1;a50 5:4,5;");
        }, QuoteGrid::load, -1024);
        QuoteGrid grid = new QuoteGrid();
        Check.type(grid, "a0 9:1");
        Check.due("load() of half an item", grid.load(), -1006);
        Check.due("the text is kept", grid.append(';'), 7);
        Check.due("load() of the whole item", grid.load(), 1);
        Check.due("one action", grid.count(11), 1);
    }
}
