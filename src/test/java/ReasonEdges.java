import java.util.function.Consumer;

/** The edges of promises 25 to 28: reasons, and what would be. */
final class ReasonEdges {
    private static final Consumer<QuoteGrid> EMPTY = grid -> { };

    private ReasonEdges() {
    }

    static void run() {
        changesNothing();
        promise25();
        promise25Errors();
        promise26();
        promise26Ends();
        promise26Errors();
        promise27();
        promise28();
        promise28Errors();
    }

    private static void changesNothing() {
        Doc.about("Errors", "---- reasons, and what would be, which changes nothing.");
        Check.refuses("refusal(2, 0, 3, 15)", Scene::rich, rich -> rich.refusal(2, 0, 3, 15), 0);
        Check.refuses("refusal(1, 2, 0, 2), placed", Scene::rich, rich -> rich.refusal(1, 2, 0, 2), 0);
        Check.refuses("bestPlace(2, 0)", Scene::rich, rich -> rich.bestPlace(2, 0), 0);
        Check.refuses("bestPlace(0, 0), placed", Scene::rich, rich -> rich.bestPlace(0, 0), 0);
        Check.refuses("bestPlace(2, 1)", Scene::rich, rich -> rich.bestPlace(2, 1), 7);
        Check.refuses("troubled()", Scene::rich, QuoteGrid::troubled, 0);
        Check.refuses("roomFor(0)", Scene::rich, rich -> rich.roomFor(0), 200);
        Check.refuses("roomFor(1)", Scene::rich, rich -> rich.roomFor(1), 30);
    }

    private static void promise25() {
        String section = "Promise 25";
        Doc.about(section, "Tells for which reason a place for a quote would be refused.");
        QuoteGrid grid = Check.made(Scene::rich);
        for (int page = 0; page < 3; page++) {
            for (int column = 0; column < 6; column += 5) {
                for (int row = 0; row < 20; row += 9) {
                    QuoteGrid placing = Check.made(Scene::rich);
                    boolean refused = grid.refusal(2, page, column, row) != 0;
                    boolean placed = placing.place(2, page, column, row) >= 0;
                    Check.holds("place(2, " + page + ", " + column + ", " + row + ") if it is not refused",
                            refused != placed);
                }
            }
        }
        Doc.about(section, "- `quote`: a quote");
        Check.edges("refusal(quote, 0, 0, 15) of eight", Scene::eightToPlace,
                (asked, quote) -> asked.refusal(quote, 0, 0, 15), 0, 0, 7, 0);
        Check.edges("refusal(quote, 1, 0, 0) of three", Scene::rich, (asked, quote) -> asked.refusal(quote, 1, 0, 0),
                0, 4, 2, 4);
        Doc.about(section, "- `page`: 0 to 2");
        Check.edges("refusal(0, page, 5, 19)", Scene::rich, (asked, page) -> asked.refusal(0, page, 5, 19), 0, 0, 2, 3);
        Doc.about(section, "- `column`: 0 to 5");
        Check.edges("refusal(1, 2, column, 0)", Scene::rich, (asked, column) -> asked.refusal(1, 2, column, 0),
                0, 0, 5, 1);
        Doc.about(section, "- `row`: 0 to 19");
        Check.edges("refusal(1, 2, 0, row)", Scene::rich, (asked, row) -> asked.refusal(1, 2, 0, row), 0, 0, 19, 1);
        Doc.about(section, "Returns the reason, 1 to 6, or 0 if it would not be refused;");
        // Column 5, row 0 of page 0, with each of the answers.
        String[] texts = {"a104 9:4;q0 0 1x1;", "a104 9:4;q0 0 2x1;", "a104 9:4;q0 0 1x1;q0 0 1x1;",
            "a100 200;a90 200:0;q1 0 1x1;", "a240 9:0;q0 0 1x1;", "a81 9:0;q0 0 1x1;",
            "a100 15:14,5;q0 0 1x1;q0 1 1x1;"};
        for (int reason = 0; reason <= 6; reason++) {
            QuoteGrid asked = Check.read(texts[reason]);
            asked.setRule(1, 20);
            asked.place(1, 0, 4, reason == 6 ? 8 : 0);
            Check.due("a place with the answer " + reason, asked.refusal(0, 0, 5, 0), reason);
        }
    }

    private static void promise25Errors() {
        Doc.about("Promise 25", "INVALID_ARGUMENT if an argument is out of range.");
        Check.refuses("refusal(0, 0, 0, 0) of no quote", EMPTY, fresh -> fresh.refusal(0, 0, 0, 0), Check.INVALID);
        Check.refuses("refusal(3, 3, 6, 20)", Scene::rich, rich -> rich.refusal(3, 3, 6, 20), Check.INVALID);
        Check.refuses("a module of this page by its row", Scene::rich, rich -> rich.refusal(0, 0, 0, 20), Check.INVALID);
        Check.refuses("a module of the next page by its column", Scene::rich, rich -> rich.refusal(0, 0, 6, 0),
                Check.INVALID);
    }

    private static void promise26() {
        String section = "Promise 26";
        Doc.about(section, "Finds the best place for a quote: of all that would not be refused that with the least");
        QuoteGrid grid = Scene.readAtAnyDistance("a100 200:0;q0 0 1x1;q0 0 1x1;q0 0 2x1;q0 0 3x1;");
        Check.due("the first of all with 1", grid.bestPlace(0, 0), 0);
        Check.due("the first one without unrest", grid.bestPlace(2, 0), 40);
        Check.due("the first one with 1 of three columns", grid.bestPlace(3, 0), 20);
        grid.place(1, 2, 5, 19);
        Check.due("on the page and the side that make good for another one", grid.bestPlace(0, 0), 240);
        Check.due("without unrest", grid.bestPlace(0, 1), 0);
        grid.place(1, 0, 0, 0);
        Check.due("on the other side", grid.bestPlace(0, 0), 60);
        Check.due("for a placed quote, as if it were not placed", grid.bestPlace(1, 0), 0);
        Check.due("with the unrest of its new place alone", grid.bestPlace(1, 1), 1);
        // The sentence begins in row 9, so that only row 19 is ten rows away from it.
        QuoteGrid last = Check.read("a49 5:0;q0 0 1x1;");
        last.setRule(1, 10);
        last.setRule(0, 10);
        Check.due("refused ones are left out", last.bestPlace(0, 0), 19);
        Doc.about(section, "of several the one whose first module (in its column and row) has the smallest number.");
        QuoteGrid wide = Scene.readAtAnyDistance("a100 200:0;q0 0 3x6;q0 0 2x6;");
        Check.due("the first one of the smallest unrest", wide.bestPlace(0, 0), 20);
        Check.due("its unrest", wide.bestPlace(0, 1), 6);
        Check.due("in the middle", wide.bestPlace(1, 0), 40);
        wide.place(1, 0, 2, 0);
        Check.due("the same unrest a few rows below", wide.bestPlace(0, 0), 27);
        QuoteGrid ruled = Check.read("a40 60:0;q0 0 1x1;");
        ruled.setRule(0, 2);
        Check.due("an earlier column comes ahead of an earlier row", ruled.bestPlace(0, 0), 0);
        ruled.setRule(0, 3);
        Check.due("an earlier column, a later row", ruled.bestPlace(0, 0), 3);
    }

    private static void promise26Ends() {
        String section = "Promise 26";
        Doc.about(section, "- `what`: 0 this module, 1 the unrest that there would be");
        Check.edges("bestPlace(2, what)", Scene::rich, (asked, what) -> asked.bestPlace(2, what), 0, 0, 1, 7);
        // The sentence of quote 0 begins at column 0, row 4 of page 2; only row 14 is far enough from it.
        QuoteGrid grid = Check.read("a244 16:0;q0 0 3x6;");
        grid.setRule(0, 10);
        Check.due("in the last row that it can have", grid.bestPlace(0, 0), 240 + 20 + 14);
        Doc.about(section, "Returns the number;");
        QuoteGrid first = Scene.readAtAnyDistance("a0 200:199;q0 0 1x1;");
        Check.due("the first module", first.bestPlace(0, 0), 0);
        Check.due("no unrest", Scene.readAtAnyDistance("a0 200:199;q0 0 2x6;").bestPlace(0, 1), 0);
        QuoteGrid right = Scene.readAtAnyDistance("a240 1:0;q0 0 3x6;q0 0 3x6;");
        right.place(1, 2, 0, 0);
        right.setRule(2, 9);
        Check.due("the last module that can be the first one of a 3x6", right.bestPlace(0, 0), 240 + 60 + 14);
        Check.due("without unrest", right.bestPlace(0, 1), 0);
        Doc.about(section, "NONE if there is no such place.");
        for (int what = 0; what <= 1; what++) {
            Check.due("all modules are full", Check.read("a0 200:0;a0 158;q0 0 1x1;").bestPlace(0, what), Check.NONE);
            Check.due("no line", Check.read("a359 1;a359 1:0;q1 0 1x1;").bestPlace(0, what), Check.NONE);
            QuoteGrid strict = Check.read("a0 120:0;q0 0 1x1;");
            strict.setRule(0, 0);
            strict.setRule(1, 0);
            Check.due("no distance is allowed", strict.bestPlace(0, what), Check.NONE);
        }
        QuoteGrid room = Scene.readAtAnyDistance("a0 200:0;a0 157;q0 0 1x1;");
        Check.due("one module is free", room.bestPlace(0, 0), 0);
    }

    private static void promise26Errors() {
        String section = "Promise 26";
        Doc.about(section, "- `quote`: a quote");
        Check.edges("bestPlace(quote, 1) of eight", Scene::eightToPlace,
                (asked, quote) -> asked.bestPlace(quote, 1), 0, 1, 7, 1);
        Doc.about(section, "INVALID_ARGUMENT if an argument is out of range;");
        Check.refuses("bestPlace(0, 0) of no quote", Scene::sixArticles, none -> none.bestPlace(0, 0), Check.INVALID);
        Check.refuses("bestPlace(3, 2)", Scene::rich, rich -> rich.bestPlace(3, 2), Check.INVALID);
    }

    private static void promise27() {
        String section = "Promise 27";
        Doc.about(section, "Counts the placed quotes that would be refused at their places now");
        QuoteGrid grid = Check.read("a0 60:50,10;q0 0 1x1;q0 1 1x1;q0 1 1x1;");
        grid.place(0, 0, 5, 10);
        grid.place(1, 0, 5, 0);
        Check.due("none", grid.troubled(), 0);
        grid.setRule(0, 4);
        Check.due("one for 5, which troubles the other one for 6", grid.troubled(), 2);
        grid.setRule(0, 3);
        grid.setArticle(0, 0, 200);
        Check.due("both for 4", grid.troubled(), 2);
        grid.lift(0);
        Check.due("one that is placed", grid.troubled(), 1);
        grid.lift(1);
        Check.due("none that is placed", grid.troubled(), 0);
        QuoteGrid near = Scene.readAtAnyDistance("a100 200:0;q0 0 1x1;q0 0 1x1;q0 0 1x1;");
        near.place(0, 0, 0, 0);
        near.place(1, 0, 0, 5);
        near.place(2, 0, 0, 10);
        near.setRule(2, 5);
        Check.due("none nearer than the gap", near.troubled(), 0);
        near.setRule(2, 6);
        Check.due("all three for 2", near.troubled(), 3);
        QuoteGrid full = Scene.readAtAnyDistance("a340 19:0;a0 19:0;q0 0 1x1;q1 0 1x1;");
        full.place(0, 2, 5, 10);
        full.place(1, 0, 2, 0);
        full.setArticle(0, 1, 20);
        Check.due("one for 3", full.troubled(), 1);
        full.setArticle(1, 1, 40);
        Check.due("the other one is in no article's way", full.troubled(), 1);
        Doc.about(section, "Returns the number.");
        Check.due("of nothing", new QuoteGrid().troubled(), 0);
        QuoteGrid eight = Check.made(Scene::eightToPlace);
        Check.due("of eight that are not placed", eight.troubled(), 0);
        eight.floatAll();
        Check.due("of eight that stand well", eight.troubled(), 0);
        eight.setArticle(0, 1, 1);
        eight.setArticle(0, 0, 359);
        Check.due("of eight without a line on their page", eight.troubled(), 8);
    }

    private static void promise28() {
        String section = "Promise 28";
        Doc.about(section, "Returns the greatest length that an article could have without any article being overset");
        room("up to the end of the modules", "a340 5;", 0, 20);
        room("up to the next article", "a300 5;a350 10;", 0, 50);
        room("the next one has room for one", "a300 5;a350 9;", 0, 51);
        room("the next one is overset already", "a300 5;a350 30;", 0, 50);
        room("an article ahead takes modules", "a350 10;a300 5;", 1, 50);
        room("a notice takes a module", "a230 10;a359 1;", 0, 128);
        room("two notices take two", "a110 10;a301 59;", 0, 189);
        QuoteGrid grid = Scene.readAtAnyDistance("a340 5:0;q0 0 3x2;");
        grid.place(0, 2, 3, 12);
        Check.due("a quote takes modules", grid.roomFor(0), 18);
        for (String text : new String[] {"a340 5;", "a300 5;a350 9;", "a230 10;a359 1;"}) {
            QuoteGrid set = Check.read(text);
            int overset = set.count(6);
            int greatest = set.roomFor(0);
            set.setArticle(0, 1, greatest);
            Check.due("with the greatest length nothing more is overset", set.count(6), overset);
            set.setArticle(0, 1, greatest + 1);
            Check.due("with one line more one line is", set.count(6), overset + 1);
        }
        Doc.about(section, "Returns the length, up to 200, at least its length;");
        room("exactly 200", "a100 1;a302 58;", 0, 200);
        room("199", "a100 1;a301 59;", 0, 199);
        room("more than 200", "a0 1;", 0, 200);
        room("200 already", "a0 200;", 0, 200);
        room("200 already, overset", "a359 200;", 0, 200);
        room("exactly its length", "a340 20;", 0, 20);
        room("one line more", "a340 19;", 0, 20);
        room("overset by one", "a340 21;", 0, 21);
        room("overset by one, with one line", "a340 20;a340 1;", 1, 1);
        room("one line, no room", "a359 1;", 0, 1);
    }

    private static void room(String what, String text, int article, int want) {
        Check.due(what, Check.read(text).roomFor(article), want);
    }

    private static void promise28Errors() {
        String section = "Promise 28";
        Doc.about(section, "- `article`: an article");
        Check.edges("roomFor(article) of two", Scene::rich, QuoteGrid::roomFor, 0, 200, 1, 30);
        Check.edges("roomFor(article) of six", Scene::sixArticles, QuoteGrid::roomFor, 0, 200, 5, 60);
        Doc.about(section, "INVALID_ARGUMENT if there is no such article.");
        Check.refuses("roomFor(0) of none", EMPTY, fresh -> fresh.roomFor(0), Check.INVALID);
        Check.refuses("roomFor(2) of two", Scene::rich, rich -> rich.roomFor(2), Check.INVALID);
    }
}
