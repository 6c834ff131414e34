/** The edges of the rules: their ranges, the six reasons, and which one comes first. */
final class RuleEdges {
    private static final String RULES = "Rules";

    private RuleEdges() {
    }

    static void run() {
        ranges();
        firstReason();
        outside();
        gap();
        overset();
        oversetByNotice();
        noLine();
        ownDistance();
        ownSentenceOnPage();
        anothersDistance();
        anothersSentenceOnPage();
        placedCountsAsNotPlaced();
        oversetSentence();
    }

    private static void ranges() {
        Doc.about(RULES, "There are three rules: the least distance from 0 to 10 (at first 3)");
        QuoteGrid grid = new QuoteGrid();
        Check.due("the least distance at first", grid.count(3), 3);
        Check.due("the greatest distance at first", grid.count(4), 12);
        Check.due("the gap at first", grid.count(5), 2);
        Check.edges("setRule(0, value)", fresh -> { }, (fresh, value) -> fresh.setRule(0, value), 0, 3, 10, 3);
        Check.edges("setRule(1, value)", fresh -> fresh.setRule(0, 0), (fresh, value) -> fresh.setRule(1, value),
                0, 12, 20, 12);
        Check.edges("setRule(2, value)", fresh -> { }, (fresh, value) -> fresh.setRule(2, value), 1, 2, 10, 2);
        Check.refuses("a fourth rule", Scene::rich, rich -> rich.setRule(3, 1), Check.INVALID);
    }

    /**
     * Of two reasons that apply the first one is told; that the second one applies too is seen when
     * the first one is taken away. (4 and 5 never apply together: a sentence on the page is a line.)
     */
    private static void firstReason() {
        Doc.about(RULES, "A place for a quote is refused, for the first reason that applies, if with it:");
        QuoteGrid near = Scene.readAtAnyDistance("a0 60:0;q0 0 2x1;q0 0 1x1;q0 0 1x1;");
        near.place(2, 0, 5, 11);
        wideAndNarrow("1 and 2", near, 0, 10, 2);
        wideAndNarrow("1 and 3", Scene.readAtAnyDistance("a340 20:0;q0 0 2x1;q0 0 1x1;"), 2, 0, 3);
        wideAndNarrow("1 and 4", Check.read("a0 60:0;q0 0 2x1;q0 0 1x1;"), 1, 0, 4);
        QuoteGrid strict = Check.read("a0 60:50;q0 0 2x1;q0 0 1x1;");
        strict.setRule(0, 4);
        wideAndNarrow("1 and 5", strict, 0, 10, 5);
        wideAndNarrow("1 and 6", pushing("q0 1 2x1;q0 1 1x1;q0 0 1x1;", 2), 0, 0, 6);
        secondIsNear();
        thirdIsOverset();
        QuoteGrid far = Check.read("a120 60:50;a0 5:0;q0 0 1x1;q1 0 1x1;");
        far.place(0, 1, 3, 13);
        Check.due("4 and 6", far.refusal(1, 1, 0, 0), 4);
        far.setArticle(1, 0, 200);
        Check.due("6 without 4", far.refusal(1, 1, 0, 0), 6);
        QuoteGrid both = Check.read("a0 60:10,50;q0 0 1x1;q0 1 1x1;");
        both.place(1, 0, 3, 13);
        both.setRule(1, 10);
        Check.due("5 and 6", both.refusal(0, 0, 0, 0), 5);
        both.setRule(1, 11);
        Check.due("6 without 5", both.refusal(0, 0, 0, 0), 6);
    }

    /** Quote 0 has two columns, quote 1 has one: in the last column only the first one lies outside. */
    private static void wideAndNarrow(String reasons, QuoteGrid grid, int page, int row, int want) {
        Check.due(reasons, grid.refusal(0, page, 5, row), 1);
        Check.due(reasons + ", without 1", grid.refusal(1, page, 5, row), want);
    }

    /**
     * Sentence 0 begins at column 5, row 5, sentence 1 at row 14. A quote of sentence 0 stands three
     * rows away from it, so that it is too near when something above pushes the sentence by one row.
     */
    private static QuoteGrid pushing(String quotes, int placed) {
        QuoteGrid grid = Check.read("a100 15:5,14;" + quotes);
        grid.setRule(1, 20);
        grid.place(placed, 0, 4, 8);
        return grid;
    }

    private static void secondIsNear() {
        QuoteGrid full = Scene.readAtAnyDistance("a340 20:0;q0 0 1x1;q0 0 1x1;");
        full.place(0, 2, 4, 19);
        nearOrElse("2 and 3", full, 2, 1, 2, 19, 3);
        QuoteGrid lineless = Scene.readAtAnyDistance("a0 60:0;a120 30:0;q1 0 1x1;q0 0 1x1;");
        lineless.place(0, 1, 5, 5);
        nearOrElse("2 and 4", lineless, 2, 1, 1, 6, 4);
        QuoteGrid own = Check.read("a0 60:50;q0 0 1x1;q0 0 1x1;");
        own.place(0, 0, 3, 13);
        own.setRule(0, 4);
        nearOrElse("2 and 5", own, 4, 3, 0, 10, 5);
        nearOrElse("2 and 6", pushing("q0 0 1x1;q0 1 1x1;", 0), 4, 3, 0, 5, 6);
    }

    /** Asks for a place in the last column with two gaps, of which only the first one is too great. */
    private static void nearOrElse(String reasons, QuoteGrid grid, int great, int small, int page, int row, int want) {
        grid.setRule(2, great);
        Check.due(reasons, grid.refusal(1, page, 5, row), 2);
        grid.setRule(2, small);
        Check.due(reasons + ", without 2", grid.refusal(1, page, 5, row), want);
    }

    private static void thirdIsOverset() {
        QuoteGrid lineless = Check.read("a340 20:0;a0 5:0;q1 0 1x1;");
        Check.due("3 and 4", lineless.refusal(0, 2, 5, 0), 3);
        lineless.setArticle(0, 1, 19);
        Check.due("4 without 3", lineless.refusal(0, 2, 5, 0), 4);
        QuoteGrid own = Check.read("a340 20:0;q0 0 1x1;");
        Check.due("3 and 5", own.refusal(0, 2, 5, 2), 3);
        own.setArticle(0, 1, 19);
        Check.due("5 without 3", own.refusal(0, 2, 5, 2), 5);
        QuoteGrid another = Check.read("a340 20:5,12;q0 0 1x1;q0 1 1x1;");
        another.setRule(1, 20);
        another.place(0, 2, 4, 8);
        Check.due("3 and 6", another.refusal(1, 2, 5, 0), 3);
        another.setArticle(0, 1, 19);
        Check.due("6 without 3", another.refusal(1, 2, 5, 0), 6);
    }

    private static void outside() {
        Doc.about(RULES, "1: a part of the quote would lie outside of the page;");
        for (int width = 1; width <= 3; width++) {
            for (int height = 1; height <= 6; height++) {
                QuoteGrid grid = Scene.readAtAnyDistance("a100 200:0;q0 0 " + width + "x" + height + ";");
                String size = width + " columns and " + height + " rows";
                for (int page = 0; page < 3; page++) {
                    Check.due(size + " at the first module", grid.refusal(0, page, 0, 0), 0);
                    Check.due(size + " up to the last one", grid.refusal(0, page, 6 - width, 20 - height), 0);
                    for (int column = 7 - width; column <= 5; column++) {
                        Check.due(size + " in column " + column, grid.refusal(0, page, column, 0), 1);
                    }
                    for (int row = 21 - height; row <= 19; row++) {
                        Check.due(size + " in row " + row, grid.refusal(0, page, 0, row), 1);
                    }
                }
            }
        }
    }

    private static void gap() {
        Doc.about(RULES, "2: its distance from another placed quote on the page would be less than the gap;");
        QuoteGrid grid = Scene.readAtAnyDistance("a100 200:0;q0 0 1x1;q0 0 1x1;");
        Check.due("another one that is not placed", grid.refusal(1, 0, 0, 0), 0);
        grid.place(0, 0, 0, 0);
        for (int gap = 1; gap <= 10; gap++) {
            grid.setRule(2, gap);
            Check.due("at a gap of " + gap, grid.refusal(1, 0, 0, gap), 0);
            Check.due("at a gap of " + gap + " less 1", grid.refusal(1, 0, 0, gap - 1), 2);
            int column = Math.min(gap, 5);
            Check.due(column + " columns away", grid.refusal(1, 0, column, 0), gap > 5 ? 2 : 0);
            Check.due("a column nearer", grid.refusal(1, 0, column - 1, 0), 2);
            Check.due("upon the quote on another page", grid.refusal(1, 1, 0, 0), 0);
            Check.due("upon itself", grid.refusal(0, 0, 0, 0), 0);
        }
        grid.lift(0);
        Check.due("another one that was lifted", grid.refusal(1, 0, 0, 0), 0);
    }

    private static void overset() {
        Doc.about(RULES, "3: some article would be overset by more lines than it is without this quote being");
        at("room for the whole quote", "a340 14:0;q0 0 1x6;", 2, 0, 0);
        at("room for the quote less one module", "a340 15:0;q0 0 1x6;", 2, 0, 3);
        at("upon its last line, with room for one", "a340 19:0;q0 0 1x1;", 2, 18, 0);
        at("upon its last line, without room", "a340 20:0;q0 0 1x1;", 2, 19, 3);
        at("beside a full article", "a341 19:0;q0 0 1x1;", 2, 0, 0);
        at("one line more of an article that is overset", "a340 30:0;q0 0 1x1;", 2, 0, 3);
        at("not more of an article that is overset", "a341 30:0;q0 0 1x1;", 2, 0, 0);
        at("another article has no room", "a340 20;a240 5:0;q1 0 1x1;", 2, 19, 3);
        at("another article has room for one", "a340 19;a240 5:0;q1 0 1x1;", 2, 18, 0);
        at("an article pushes the next one over the end", "a340 10;a350 10:0;q1 0 1x1;", 2, 0, 3);
        at("an article pushes the next one up to the end", "a340 10;a350 9:0;q1 0 1x1;", 2, 0, 0);
    }

    private static void at(String what, String text, int page, int row, int want) {
        Check.due(what, Scene.readAtAnyDistance(text).refusal(0, page, 5, row), want);
    }

    private static void oversetByNotice() {
        Doc.about(RULES, "3: some article would be overset by more lines");
        at("pushed to the last module of all, which becomes a notice", "a240 119;a230 10:0;q1 0 1x1;", 1, 19, 3);
        at("pushed to the last two, a notice and a line", "a240 118;a230 10:0;q1 0 1x1;", 1, 19, 0);
    }

    private static void noLine() {
        Doc.about(RULES, "4: its article would have no line on this page;");
        QuoteGrid grid = Scene.readAtAnyDistance("a119 2:0;q0 0 1x1;");
        Check.due("one line on the first page", grid.refusal(0, 0, 0, 0), 0);
        Check.due("one line on the second page", grid.refusal(0, 1, 5, 0), 0);
        Check.due("no line on the third page", grid.refusal(0, 2, 5, 0), 4);
        grid.setArticle(0, 1, 1);
        Check.due("no line on the second page any more", grid.refusal(0, 1, 5, 0), 4);
        Check.due("its only line is pushed to another page", grid.refusal(0, 0, 5, 19), 4);
        Check.due("and comes to the page to which it is pushed", pushedLine().refusal(0, 1, 5, 0), 0);
        QuoteGrid notice = Scene.readAtAnyDistance("a120 118;a100 30:0;q1 0 1x1;");
        Check.due("a notice alone", notice.refusal(0, 1, 5, 19), 4);
        Check.due("a notice where the line was", notice.refusal(0, 1, 5, 18), 4);
        Check.due("another article's lines", Scene.readAtAnyDistance("a0 60;a240 5:0;q1 0 1x1;").refusal(0, 0, 5, 0), 4);
        Check.due("all lines overset", Scene.readAtAnyDistance("a340 20;a340 5:0;q1 0 1x1;").refusal(0, 2, 0, 0), 4);
    }

    /** A line that is on the second page, because another quote has pushed it there. */
    private static QuoteGrid pushedLine() {
        QuoteGrid grid = Scene.readAtAnyDistance("a118 1:0;a119 1:0;q1 0 1x1;q0 0 1x1;");
        grid.place(1, 0, 5, 18);
        return grid;
    }

    private static void ownDistance() {
        Doc.about(RULES, "5: its sentence would lie on this page, at a distance less than the least one or greater");
        // The sentence begins at column 2, row 10, and stays there.
        for (int distance = 1; distance <= 10; distance++) {
            QuoteGrid grid = Check.read("a50 20:0;q0 0 1x1;");
            grid.setRule(0, distance);
            Check.due("at the least distance of " + distance, grid.refusal(0, 0, 2, 10 - distance), 0);
            if (distance > 1) {
                Check.due("at " + distance + " less 1", grid.refusal(0, 0, 2, 11 - distance), 5);
            }
        }
        // The sentence begins at column 2, row 0.
        for (int distance = 1; distance <= 19; distance++) {
            QuoteGrid grid = Check.read("a40 20:0;q0 0 1x1;");
            grid.setRule(0, 0);
            grid.setRule(1, distance);
            Check.due("at the greatest distance of " + distance, grid.refusal(0, 0, 2, distance), 0);
            if (distance < 19) {
                Check.due("at " + distance + " and 1", grid.refusal(0, 0, 2, distance + 1), 5);
            }
        }
        QuoteGrid exact = Check.read("a50 20:0;q0 0 1x1;");
        exact.setRule(1, 3);
        Check.due("by columns, where only 3 is allowed", exact.refusal(0, 0, 5, 10), 0);
        Check.due("two columns", exact.refusal(0, 0, 4, 10), 5);
        Check.due("three columns, four rows", exact.refusal(0, 0, 5, 14), 5);
        exact.setRule(0, 0);
        exact.setRule(1, 0);
        Check.due("where only 0 is allowed", exact.refusal(0, 0, 3, 10), 5);
        exact.setRule(1, 1);
        Check.due("where the sentence is pushed to the next row", exact.refusal(0, 0, 2, 10), 0);
    }

    private static void ownSentenceOnPage() {
        Doc.about(RULES, "5: its sentence would lie on this page");
        QuoteGrid elsewhere = Check.read("a110 20:0;q0 0 1x1;");
        Check.due("on the same page", elsewhere.refusal(0, 0, 5, 9), 5);
        Check.due("on another page", elsewhere.refusal(0, 1, 5, 10), 0);
        QuoteGrid pushed = Check.read("a110 20:9;q0 0 1x1;");
        Check.due("pushed by the quote to another page", pushed.refusal(0, 0, 5, 18), 0);
        Check.due("not pushed", pushed.refusal(0, 0, 4, 18), 5);
        Check.due("pushed beside the quote", Check.read("a0 60:9;q0 0 1x1;").refusal(0, 0, 0, 9), 5);
        Check.due("pushed away from the quote", Check.read("a0 60:9;q0 0 1x1;").refusal(0, 0, 0, 7), 0);
    }

    private static void anothersDistance() {
        Doc.about(RULES, "6: another placed quote would have its sentence on its own page at a distance less than");
        QuoteGrid near = pushing("q0 0 1x1;q0 1 1x1;", 0);
        Check.due("pushed to less than the least distance", near.refusal(1, 0, 5, 0), 6);
        Check.due("not pushed", near.refusal(1, 0, 3, 0), 0);
        near.setRule(0, 2);
        Check.due("pushed to the least distance", near.refusal(1, 0, 5, 0), 0);
        near.setRule(0, 3);
        near.lift(0);
        Check.due("another one that was lifted", near.refusal(1, 0, 5, 0), 0);
        QuoteGrid far = Check.read("a0 60:45,50;q0 0 1x1;q0 1 1x1;");
        far.setRule(1, 3);
        far.setRule(2, 1);
        Check.due("another one that is not placed", far.refusal(0, 0, 2, 8), 0);
        far.place(1, 0, 3, 7);
        Check.due("pushed to more than the greatest distance", far.refusal(0, 0, 2, 8), 6);
        far.setRule(1, 4);
        Check.due("pushed to the greatest distance", far.refusal(0, 0, 2, 8), 0);
    }

    private static void anothersSentenceOnPage() {
        Doc.about(RULES, "6: another placed quote would have its sentence on its own page");
        // Line 15 lies at row 6 of page 1, three rows above its quote.
        QuoteGrid nextPage = Check.read("a110 30:15,0;q0 0 1x1;q0 1 1x1;");
        nextPage.place(0, 1, 1, 9);
        Check.due("pushed on the other's page, from this one", nextPage.refusal(1, 0, 5, 14), 6);
        nextPage.setRule(0, 2);
        Check.due("pushed to the least distance there", nextPage.refusal(1, 0, 5, 14), 0);
        // Line 9 lies in the last module of page 0.
        QuoteGrid leaving = Check.read("a110 30:9,0;q0 0 1x1;q0 1 1x1;");
        leaving.place(0, 0, 2, 19);
        Check.due("pushed away from the other's page", leaving.refusal(1, 0, 5, 13), 0);
        // Line 10 is pushed from one page to the next, where its quote stands beside it.
        QuoteGrid coming = Check.read("a110 30:9,0;q0 0 1x1;q0 1 1x1;");
        coming.place(0, 1, 1, 1);
        Check.due("on another page than its quote", coming.refusal(1, 0, 5, 3), 0);
        Check.due("pushed to the other's page", coming.refusal(1, 0, 5, 13), 6);
    }

    private static void placedCountsAsNotPlaced() {
        Doc.about(RULES, "(If the quote is placed already, it counts as not placed for all this.");
        QuoteGrid grid = Check.read("a0 60:50;q0 0 2x2;");
        grid.place(0, 0, 4, 13);
        Check.due("for 2: its own place", grid.refusal(0, 0, 4, 13), 0);
        Check.due("for 2: a place that shares modules with it", grid.refusal(0, 0, 4, 14), 0);
        QuoteGrid full = Scene.readAtAnyDistance("a340 19:0;q0 0 1x1;");
        full.place(0, 2, 5, 5);
        Check.due("for 3: in the same article", full.refusal(0, 2, 5, 7), 0);
        full.setArticle(0, 1, 20);
        Check.due("for 3: what its place oversets is not overset without it", full.refusal(0, 2, 5, 5), 3);
        QuoteGrid only = Scene.readAtAnyDistance("a118 2:0;q0 0 1x1;");
        only.place(0, 0, 5, 18);
        Check.due("for 4: its place has pushed a line to page 1", only.article(0, 6), 121);
        Check.due("for 4: without it no line is there", only.refusal(0, 1, 5, 0), 4);
        QuoteGrid pushed = Check.read("a0 60:9;q0 0 1x1;");
        pushed.place(0, 0, 0, 0);
        Check.due("for 5: its place has pushed the sentence", pushed.sentence(0, 0, 1), 10);
        Check.due("for 5: three rows from where it is without it", pushed.refusal(0, 0, 1, 12), 0);
        Check.due("for 5: two rows from there", pushed.refusal(0, 0, 1, 11), 5);
        Check.due("for 5: three rows above there", pushed.refusal(0, 0, 1, 6), 0);
        QuoteGrid another = pushing("q0 0 1x1;q0 1 1x1;", 0);
        another.setRule(0, 2);
        another.place(1, 0, 5, 0);
        another.setRule(0, 3);
        Check.due("for 6: it pushes the other's sentence", another.refusal(1, 0, 5, 0), 6);
        Check.due("for 6: elsewhere it does not", another.refusal(1, 0, 3, 0), 0);
    }

    private static void oversetSentence() {
        Doc.about(RULES, "A sentence whose line is overset lies on no page.)");
        QuoteGrid grid = Check.read("a350 20:10,9;q0 0 1x1;q0 1 1x1;q0 0 1x1;");
        grid.setRule(0, 0);
        grid.setRule(1, 0);
        Check.due("its sentence in the first line that is overset", grid.refusal(0, 2, 0, 0), 0);
        Check.due("its sentence in the last line that is not", grid.refusal(1, 2, 0, 0), 5);
        Check.due("placed, it has no distance", grid.place(0, 2, 0, 0) + grid.quote(0, 7), 1 + Check.NONE);
        Check.due("nor is it a hindrance for another", grid.refusal(2, 2, 0, 5), 0);
        Check.due("nor is it in trouble", grid.troubled(), 0);
    }
}
