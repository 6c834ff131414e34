import java.util.LinkedHashMap;
import java.util.Map;
import java.util.function.Consumer;
import java.util.function.ToIntFunction;

/** The edges of the snapshots, of the history and of the errors. */
final class UndoEdges {
    private static final String UNDO = "Undo";
    private static final String ERRORS = "Errors";

    private UndoEdges() {
    }

    static void run() {
        fiveStates();
        statesHoldAllButText();
        snapshotsBelongToStates();
        actionsRecord();
        othersRecordNothing();
        oldestIsDropped();
        undoRestores();
        errorsChangeNothing();
        firstError();
        errorAheadOfNone();
        constants();
        promise12();
        promise13();
        promise14();
    }

    private static void fiveStates() {
        Doc.about(UNDO, "A history of at most 5 states is kept;");
        QuoteGrid grid = new QuoteGrid();
        Check.due("at first", grid.count(11), 0);
        for (int actions = 1; actions <= 8; actions++) {
            grid.setRule(2, actions);
            Check.due("behind " + actions + " actions", grid.count(11), Math.min(actions, 5));
        }
        for (int left = 4; left >= 0; left--) {
            Check.due("undo()", grid.undo(), left);
        }
        Check.due("undo() of none", grid.undo(), Check.ILLEGAL);
        Check.due("the gap ahead of the last five actions", grid.count(5), 3);
    }

    private static void statesHoldAllButText() {
        Doc.about(UNDO, "a state is everything but the text and the history");
        QuoteGrid grid = Check.made(Scene::fourStates);
        Check.type(grid, "a7");
        grid.removeArticle(1);
        Check.type(grid, " 7;");
        Check.due("undo()", grid.undo(), 4);
        Check.due("the articles are back", grid.count(0), 2);
        Check.due("the quotes are back", grid.count(1), 3);
        Check.due("with their places", grid.module(249), 22);
        Check.due("the text stays", grid.count(12), 5);
        Check.due("and is read", grid.load(), 1);
        grid.undo();
        Check.due("undo() of load() does not bring the text back", grid.count(12), 0);
        Check.type(grid, "a");
        grid.clearText();
        grid.undo();
        Check.due("nor does it that of clearText()", grid.count(12), 0);
    }

    private static void snapshotsBelongToStates() {
        Doc.about(UNDO, "(the snapshots belong to it).");
        QuoteGrid grid = Check.read("a0 10;");
        grid.take(0);
        grid.setArticle(0, 1, 20);
        grid.take(0);
        grid.take(1);
        Check.due("two snapshots", grid.count(10), 2);
        grid.undo();
        Check.due("one of them", grid.count(10), 1);
        Check.due("the other one is not there", grid.restore(1), Check.ILLEGAL);
        grid.undo();
        grid.undo();
        grid.restore(0);
        Check.due("the first one is what it was", grid.article(0, 1), 10);
        grid.undo();
        grid.undo();
        Check.due("and then it is not there either", grid.restore(0), Check.ILLEGAL);
    }

    /** Each action, also where nothing changes by it, on what Scene.fourStates() makes. */
    private static Map<String, ToIntFunction<QuoteGrid>> actions() {
        Map<String, ToIntFunction<QuoteGrid>> actions = new LinkedHashMap<>();
        actions.put("addArticle(5, 5)", grid -> grid.addArticle(5, 5));
        actions.put("removeArticle(0)", grid -> grid.removeArticle(0));
        actions.put("setArticle(1, 0, 330)", grid -> grid.setArticle(1, 0, 330));
        actions.put("setArticle(1, 0, 340), as it is", grid -> grid.setArticle(1, 0, 340));
        actions.put("setArticle(0, 1, 70)", grid -> grid.setArticle(0, 1, 70));
        actions.put("setArticle(0, 1, 60), as it is", grid -> grid.setArticle(0, 1, 60));
        actions.put("addSentence(0, 5)", grid -> grid.addSentence(0, 5));
        actions.put("addQuote(1, 2, 3, 3)", grid -> grid.addQuote(1, 2, 3, 3));
        actions.put("removeQuote(1)", grid -> grid.removeQuote(1));
        actions.put("removeQuote(2)", grid -> grid.removeQuote(2));
        actions.put("place(2, 0, 3, 15)", grid -> grid.place(2, 0, 3, 15));
        actions.put("place(0, 0, 5, 11), from elsewhere", grid -> grid.place(0, 0, 5, 11));
        actions.put("place(0, 0, 5, 10), as it is", grid -> grid.place(0, 0, 5, 10));
        actions.put("lift(1)", grid -> grid.lift(1));
        actions.put("floatAll()", QuoteGrid::floatAll);
        actions.put("setRule(0, 1)", grid -> grid.setRule(0, 1));
        actions.put("setRule(1, 12), as it is", grid -> grid.setRule(1, 12));
        actions.put("take(0)", grid -> grid.take(0));
        actions.put("take(1), in place of another one", grid -> grid.take(1));
        actions.put("restore(1)", grid -> grid.restore(1));
        actions.put("load()", QuoteGrid::load);
        return actions;
    }

    private static void actionsRecord() {
        Doc.about(UNDO, "Every successful call of a method that is called an action records the state before it");
        actions().forEach((call, asking) -> {
            Check.isAction(call, Scene::fourStates, asking);
            Check.isAction(call + " on what was undone", UndoEdges::undone, asking);
        });
        Check.isAction("take(1) again", grid -> grid.take(1), grid -> grid.take(1));
        Check.isAction("restore(0) right behind take(0)", grid -> grid.take(0), grid -> grid.restore(0));
        Check.isAction("floatAll() of nothing", grid -> { }, QuoteGrid::floatAll);
        Check.isAction("floatAll() without places", grid -> Check.load(grid, "a0 200:0;a0 200:0;q0 0 1x1;"),
                QuoteGrid::floatAll);
    }

    private static void undone(QuoteGrid grid) {
        Scene.fourStates(grid);
        grid.removeArticle(0);
        grid.undo();
    }

    private static void othersRecordNothing() {
        Doc.about(UNDO, "records the state before it (also if nothing changes by it);");
        QuoteGrid grid = Check.made(Scene::fourStates);
        Check.type(grid, "a0 9:");
        grid.load();
        grid.clearText();
        grid.addArticle(360, 1);
        grid.place(0, 2, 0, 0);
        grid.lift(2);
        grid.restore(0);
        grid.count(6);
        grid.article(1, 6);
        grid.lineAt(0, 0);
        grid.sentence(0, 0, 1);
        grid.quote(0, 7);
        grid.module(0);
        grid.page(0, 0);
        grid.refusal(2, 0, 3, 15);
        grid.bestPlace(2, 0);
        grid.troubled();
        grid.roomFor(0);
        Check.due("the states behind calls that are no actions", grid.count(11), 4);
        grid.setRule(2, 4);
        Check.due("the state behind one that is", grid.count(11), 5);
        Check.due("undo() records nothing", grid.undo(), 4);
    }

    private static void oldestIsDropped() {
        Doc.about(UNDO, "when a sixth one is recorded, the oldest one is dropped.");
        QuoteGrid five = articlesAdded(5);
        QuoteGrid six = articlesAdded(6);
        for (int left = 4; left >= 0; left--) {
            Check.due("undo() of five", five.undo(), left);
            Check.due("undo() of six", six.undo(), left);
            Check.due("what is left of five", five.count(0), left);
            Check.due("what is left of six", six.count(0), left + 1);
        }
        Check.due("the first one of six cannot be undone", six.undo(), Check.ILLEGAL);
        Check.due("it is there", six.article(0, 1), 1);
        // A full history that was undone by one has room for one again.
        QuoteGrid again = articlesAdded(6);
        again.undo();
        again.setRule(2, 7);
        Check.due("full again", again.count(11), 5);
        for (int i = 0; i < 5; i++) {
            again.undo();
        }
        Check.due("the same states but for the latest one", again.count(0), 1);
    }

    private static QuoteGrid articlesAdded(int number) {
        QuoteGrid grid = new QuoteGrid();
        for (int i = 0; i < number; i++) {
            grid.addArticle(i * 50, i + 1);
        }
        return grid;
    }

    private static void undoRestores() {
        Doc.about(UNDO, "undo() removes the latest state from the history and restores it.");
        QuoteGrid grid = Check.made(Scene::fourStates);
        Check.due("the second quote", grid.module(249), 22);
        Check.due("undo() of its place()", grid.undo(), 3);
        Check.due("the place is empty", grid.module(249), 0);
        Check.due("undo() of take()", grid.undo(), 2);
        Check.due("no snapshots", grid.count(10), 0);
        Check.due("the first quote", grid.module(110), 21);
        Check.due("undo() of its place()", grid.undo(), 1);
        Check.due("the place is empty", grid.module(110), 0);
        Check.due("undo() of load()", grid.undo(), 0);
        Check.due("nothing is there", grid.count(0) + grid.count(1) + grid.count(8), 0);
    }

    /** Calls that are refused on what Scene.rich() makes, with their error codes. */
    private static Map<String, ToIntFunction<QuoteGrid>> refused(int code) {
        Map<String, ToIntFunction<QuoteGrid>> calls = new LinkedHashMap<>();
        if (code == Check.INVALID) {
            calls.put("addArticle(360, 1)", grid -> grid.addArticle(360, 1));
            calls.put("removeArticle(2)", grid -> grid.removeArticle(2));
            calls.put("setArticle(1, 1, 20)", grid -> grid.setArticle(1, 1, 20));
            calls.put("addSentence(0, 60)", grid -> grid.addSentence(0, 60));
            calls.put("addQuote(0, 2, 1, 1)", grid -> grid.addQuote(0, 2, 1, 1));
            calls.put("removeQuote(3)", grid -> grid.removeQuote(3));
            calls.put("place(0, 3, 0, 0)", grid -> grid.place(0, 3, 0, 0));
            calls.put("lift(3)", grid -> grid.lift(3));
            calls.put("setRule(1, 1)", grid -> grid.setRule(1, 1));
            calls.put("take(2)", grid -> grid.take(2));
            calls.put("restore(2)", grid -> grid.restore(2));
            calls.put("append(256)", grid -> grid.append(256));
            calls.put("count(13)", grid -> grid.count(13));
            calls.put("article(2, 0)", grid -> grid.article(2, 0));
            calls.put("lineAt(0, 60)", grid -> grid.lineAt(0, 60));
            calls.put("sentence(0, 2, 0)", grid -> grid.sentence(0, 2, 0));
            calls.put("quote(3, 0)", grid -> grid.quote(3, 0));
            calls.put("module(360)", grid -> grid.module(360));
            calls.put("page(3, 0)", grid -> grid.page(3, 0));
            calls.put("refusal(0, 0, 6, 0)", grid -> grid.refusal(0, 0, 6, 0));
            calls.put("bestPlace(3, 0)", grid -> grid.bestPlace(3, 0));
            calls.put("roomFor(2)", grid -> grid.roomFor(2));
        } else {
            calls.put("place(2, 0, 5, 12), near another quote", grid -> grid.place(2, 0, 5, 12));
            calls.put("place(0, 2, 5, 0), where an article is overset", grid -> grid.place(0, 2, 5, 0));
            calls.put("place(0, 1, 0, 0), where no line is", grid -> grid.place(0, 1, 0, 0));
            calls.put("lift(2)", grid -> grid.lift(2));
            calls.put("restore(0)", grid -> grid.restore(0));
        }
        return calls;
    }

    private static void errorsChangeNothing() {
        Doc.about(ERRORS, "A call that returns an error code changes nothing.");
        refused(Check.INVALID).forEach((call, asking) -> Check.refuses(call, Scene::rich, asking, Check.INVALID));
        refused(Check.ILLEGAL).forEach((call, asking) -> Check.refuses(call, Scene::rich, asking, Check.ILLEGAL));
        Check.refuses("undo()", grid -> Check.type(grid, "a0 9"), QuoteGrid::undo, Check.ILLEGAL);
        Check.refuses("load()", Scene::rich, QuoteGrid::load, -1006);
        Check.refuses("addArticle(0, 1)", Scene::sixArticles, grid -> grid.addArticle(0, 1), Check.FULL);
        Check.refuses("addSentence(0, 0)", Scene::eightSentences, grid -> grid.addSentence(0, 0), Check.FULL);
        Check.refuses("addQuote(0, 0, 1, 1)", Scene::eightQuotes, grid -> grid.addQuote(0, 0, 1, 1), Check.FULL);
        Check.refuses("append(1)", grid -> Check.type(grid, "a".repeat(140)), grid -> grid.append(1), Check.FULL);
        Check.refuses("lineAt(1, 20), which is NONE", Scene::rich, grid -> grid.lineAt(1, 20), Check.NONE);
    }

    private static void firstError() {
        Doc.about(ERRORS, "If several error conditions apply, the method returns the one that its description lists");
        invalidAheadOfFull("addArticle(-1, 1)", Scene::sixArticles, grid -> grid.addArticle(-1, 1));
        invalidAheadOfFull("addArticle(0, 201)", Scene::sixArticles, grid -> grid.addArticle(0, 201));
        invalidAheadOfFull("addSentence(0, 10)", Scene::eightSentences, grid -> grid.addSentence(0, 10));
        invalidAheadOfFull("addSentence(0, -1)", Scene::eightSentences, grid -> grid.addSentence(0, -1));
        invalidAheadOfFull("addQuote(3, 0, 1, 1)", Scene::eightQuotes, grid -> grid.addQuote(3, 0, 1, 1));
        invalidAheadOfFull("addQuote(0, 3, 1, 1)", Scene::eightQuotes, grid -> grid.addQuote(0, 3, 1, 1));
        invalidAheadOfFull("addQuote(0, 0, 4, 1)", Scene::eightQuotes, grid -> grid.addQuote(0, 0, 4, 1));
        invalidAheadOfFull("addQuote(0, 0, 1, 7)", Scene::eightQuotes, grid -> grid.addQuote(0, 0, 1, 7));
        invalidAheadOfFull("append(0)", grid -> Check.type(grid, "a".repeat(140)), grid -> grid.append(0));
        invalidAheadOfFull("append(256)", grid -> Check.type(grid, "a".repeat(140)), grid -> grid.append(256));
        // Each would be refused, or is not placed, or has no snapshot, if the argument were in its range.
        Consumer<QuoteGrid> lineless = grid -> Check.load(grid, "a0 9:0;q0 0 3x6;");
        Check.refuses("place(1, 2, 5, 19)", lineless, grid -> grid.place(1, 2, 5, 19), Check.INVALID);
        Check.refuses("place(0, 3, 5, 19)", lineless, grid -> grid.place(0, 3, 5, 19), Check.INVALID);
        Check.refuses("place(0, 2, 6, 19)", lineless, grid -> grid.place(0, 2, 6, 19), Check.INVALID);
        Check.refuses("place(0, 2, 5, 20)", lineless, grid -> grid.place(0, 2, 5, 20), Check.INVALID);
        Check.refuses("refusal(0, 2, 5, 20)", lineless, grid -> grid.refusal(0, 2, 5, 20), Check.INVALID);
        Check.refuses("lift(1)", lineless, grid -> grid.lift(1), Check.INVALID);
        Check.refuses("restore(2)", lineless, grid -> grid.restore(2), Check.INVALID);
        Check.refuses("restore(-1)", lineless, grid -> grid.restore(-1), Check.INVALID);
    }

    private static void invalidAheadOfFull(String call, Consumer<QuoteGrid> setup, ToIntFunction<QuoteGrid> asking) {
        Check.refuses(call, setup, asking, Check.INVALID);
    }

    private static void errorAheadOfNone() {
        Doc.about(ERRORS, "NONE is no error, and it is returned only if no error condition applies.");
        // The line and the sentence are overset, and the quote is not placed and has no place.
        Consumer<QuoteGrid> none = grid -> Check.load(grid, "a0 200;a0 200;a350 5:4;q2 0 1x1;");
        QuoteGrid grid = Check.made(none);
        int[] answers = {grid.article(2, 5), grid.article(2, 6), grid.lineAt(2, 4), grid.sentence(2, 0, 1),
            grid.quote(0, 4), grid.quote(0, 5), grid.quote(0, 6), grid.quote(0, 7), grid.bestPlace(0, 0),
            grid.bestPlace(0, 1)};
        for (int answer : answers) {
            Check.due("what is not there", answer, Check.NONE);
        }
        Check.refuses("article(2, 7)", none, asked -> asked.article(2, 7), Check.INVALID);
        Check.refuses("lineAt(2, 5)", none, asked -> asked.lineAt(2, 5), Check.INVALID);
        Check.refuses("lineAt(3, 4)", none, asked -> asked.lineAt(3, 4), Check.INVALID);
        Check.refuses("sentence(2, 1, 1)", none, asked -> asked.sentence(2, 1, 1), Check.INVALID);
        Check.refuses("sentence(2, 0, 2)", none, asked -> asked.sentence(2, 0, 2), Check.INVALID);
        Check.refuses("quote(0, 8)", none, asked -> asked.quote(0, 8), Check.INVALID);
        Check.refuses("quote(1, 7)", none, asked -> asked.quote(1, 7), Check.INVALID);
        Check.refuses("bestPlace(0, 2)", none, asked -> asked.bestPlace(0, 2), Check.INVALID);
        Check.refuses("bestPlace(0, -1)", none, asked -> asked.bestPlace(0, -1), Check.INVALID);
        Check.refuses("bestPlace(1, 0)", none, asked -> asked.bestPlace(1, 0), Check.INVALID);
    }

    private static void constants() {
        QuoteGrid grid = new QuoteGrid();
        Doc.about(ERRORS, "`INVALID_ARGUMENT = -1`: An argument is out of range, or names something that does not");
        Check.due("the constant", QuoteGrid.INVALID_ARGUMENT, -1);
        Check.due("an argument out of range", grid.addArticle(-1, 1), -1);
        Check.due("what does not exist", grid.removeArticle(0), -1);
        Doc.about(ERRORS, "`ILLEGAL_STATE = -2`: The call is not possible in the present state.");
        Check.due("the constant", QuoteGrid.ILLEGAL_STATE, -2);
        Check.due("undo() of nothing", grid.undo(), -2);
        Doc.about(ERRORS, "`CAPACITY_EXCEEDED = -3`: There is no room.");
        Check.due("the constant", QuoteGrid.CAPACITY_EXCEEDED, -3);
        Check.due("a seventh article", Check.made(Scene::sixArticles).addArticle(0, 1), -3);
        Doc.about(ERRORS, "`NONE = -99`: There is no such value.");
        Check.due("the constant", QuoteGrid.NONE, -99);
        Check.due("a line that is overset", Check.read("a359 2;").lineAt(0, 1), -99);
    }

    private static void promise12() {
        String section = "Promise 12";
        Doc.about(section, "Takes a snapshot of articles, sentences, quotes and rules, in place of one that is there.");
        QuoteGrid grid = Check.read("a0 10;");
        for (int slot = 0; slot <= 1; slot++) {
            grid.setRule(2, 4 + slot);
            grid.take(slot);
        }
        grid.setRule(2, 9);
        grid.take(0);
        grid.setRule(2, 1);
        grid.restore(0);
        Check.due("in place of the first one", grid.count(5), 9);
        grid.restore(1);
        Check.due("the other one stays", grid.count(5), 5);
        Check.due("two snapshots", grid.count(10), 2);
        Doc.about(section, "This is an action.");
        Check.isAction("take(0)", Scene::fourStates, asked -> asked.take(0));
        Check.isAction("take(1)", Scene::fourStates, asked -> asked.take(1));
        Doc.about(section, "- `slot`: 0 or 1");
        Check.edges("take(slot)", Scene::rich, QuoteGrid::take, 0, 2, 1, 2);
        Doc.about(section, "Returns the number of placed quotes;");
        Check.due("of nothing", new QuoteGrid().take(0), 0);
        Check.due("of two", Check.made(Scene::rich).take(0), 2);
        Check.due("of eight", Check.made(UndoEdges::asMuchAsCanBe).take(1), 8);
        Doc.about(section, "INVALID_ARGUMENT if slot is out of range.");
        Check.refusesBeside("take(slot) of nothing", fresh -> { }, QuoteGrid::take, 0, 1);
    }

    /** As many articles and quotes as there can be; all the quotes are placed. */
    private static void asMuchAsCanBe(QuoteGrid grid) {
        Check.load(grid, "a100 200:0;a0 9:1;a20 9;a40 9;a60 9;a80 9;" + "q0 0 1x1;".repeat(8));
        Scene.anyDistance(grid);
        grid.floatAll();
    }

    private static void promise13() {
        String section = "Promise 13";
        Doc.about(section, "Makes articles, sentences, quotes and rules those of a snapshot, which stays.");
        fullAndEmpty();
        Doc.about(section, "This is an action.");
        Check.isAction("restore(1)", Scene::fourStates, asked -> asked.restore(1));
        Doc.about(section, "- `slot`: 0 or 1");
        Consumer<QuoteGrid> both = grid -> {
            Scene.fourStates(grid);
            grid.take(0);
        };
        Check.edges("restore(slot)", both, QuoteGrid::restore, 0, 2, 1, 1);
        Doc.about(section, "Returns the number of placed quotes then;");
        QuoteGrid placed = Check.made(UndoEdges::asMuchAsCanBe);
        placed.take(0);
        placed.removeArticle(0);
        Check.due("none is placed", placed.take(1), 0);
        Check.due("restore(0)", placed.restore(0), 8);
        Check.due("count(2)", placed.count(2), 8);
        Check.due("restore(1)", placed.restore(1), 0);
        Doc.about(section, "INVALID_ARGUMENT if slot is out of range;");
        Check.refusesBeside("restore(slot) with both", both, QuoteGrid::restore, 0, 1);
        Check.refusesBeside("restore(slot) without snapshots", fresh -> { }, QuoteGrid::restore, 0, 1);
        Doc.about(section, "ILLEGAL_STATE if there is no snapshot.");
        Check.refuses("restore(0)", fresh -> { }, fresh -> fresh.restore(0), Check.ILLEGAL);
        Check.refuses("restore(1)", fresh -> fresh.take(0), fresh -> fresh.restore(1), Check.ILLEGAL);
        Check.refuses("restore(0) with the other one", Scene::rich, rich -> rich.restore(0), Check.ILLEGAL);
    }

    private static void fullAndEmpty() {
        QuoteGrid grid = new QuoteGrid();
        grid.take(0);
        asMuchAsCanBe(grid);
        grid.take(1);
        Check.due("restore() of the empty one", grid.restore(0), 0);
        Check.due("what there is then", grid.count(0) + grid.count(1) + grid.count(8), 0);
        Check.due("the least distance then", grid.count(3), 3);
        Check.due("the greatest distance then", grid.count(4), 12);
        Check.due("restore() of the full one", grid.restore(1), 8);
        Check.due("the articles then", grid.count(0), 6);
        Check.due("the sentences then", grid.article(0, 2) + grid.article(1, 2), 2);
        Check.due("the quotes then", grid.count(1), 8);
        Check.due("the least distance then", grid.count(3), 0);
        grid.removeArticle(0);
        grid.setRule(1, 7);
        Check.due("it stays", grid.restore(1), 8);
        Check.due("as it was", grid.count(4), 20);
        Check.due("the empty one too", grid.restore(0), 0);
        Check.due("two snapshots", grid.count(10), 2);
    }

    private static void promise14() {
        String section = "Promise 14";
        Doc.about(section, "Removes the latest state from the history and restores it.");
        QuoteGrid grid = new QuoteGrid();
        grid.addArticle(3, 4);
        grid.setArticle(0, 0, 5);
        grid.setArticle(0, 0, 6);
        grid.undo();
        Check.due("the latest", grid.article(0, 0), 5);
        grid.undo();
        Check.due("the one ahead of it", grid.article(0, 0), 3);
        grid.setArticle(0, 0, 9);
        grid.undo();
        Check.due("an action between", grid.article(0, 0), 3);
        grid.undo();
        Check.due("the first one", grid.count(0), 0);
        Doc.about(section, "Returns the number of states that are left in the history;");
        QuoteGrid full = Check.made(Scene::rich);
        for (int left = 4; left >= 0; left--) {
            Check.due("undo()", full.undo(), left);
            Check.due("count(11)", full.count(11), left);
        }
        Doc.about(section, "ILLEGAL_STATE if it is empty.");
        Check.due("behind the last one", full.undo(), Check.ILLEGAL);
        Check.refuses("undo() of a new object", fresh -> { }, QuoteGrid::undo, Check.ILLEGAL);
        Check.refuses("undo() again", fresh -> {
            fresh.addArticle(0, 1);
            fresh.undo();
        }, QuoteGrid::undo, Check.ILLEGAL);
    }
}
