/** Promises 12 to 14: snapshots and undo. */
public final class SnapshotsTest {
    public static void main(String[] args) {
        promise12Take();
        promise13Restore();
        promise14Undo();
        promise14UndoOfSnapshots();
        Check.end();
    }

    private static QuoteGrid onePlaced() {
        QuoteGrid grid = Check.read("a0 60:50,10;q0 0 1x1;q0 1 2x1;");
        grid.place(0, 0, 5, 10);
        return grid;
    }

    private static void promise12Take() {
        QuoteGrid grid = onePlaced();
        Check.due("take(1)", grid.take(1), 1);
        Check.due("the snapshots", grid.count(10), 1);
        Check.due("take is an action", grid.count(11), 3);
        Check.due("take(1) in place of it", grid.take(1), 1);
        Check.due("still one snapshot", grid.count(10), 1);
        grid.lift(0);
        Check.due("take(0)", grid.take(0), 0);
        Check.due("two snapshots", grid.count(10), 2);
        grid.take(1);
        Check.due("restore(1) has what was taken last", grid.restore(1), 0);
        for (int slot : new int[] {-1, 2, Integer.MIN_VALUE, Integer.MAX_VALUE}) {
            Check.refuses("take(" + slot + ")", g -> g.addArticle(0, 5), g -> g.take(slot), Check.INVALID);
        }
    }

    private static void promise13Restore() {
        QuoteGrid grid = onePlaced();
        grid.setRule(2, 7);
        grid.take(0);
        grid.addSentence(0, 33);
        grid.setArticle(0, 0, 100);
        grid.setRule(2, 4);
        grid.addArticle(200, 5);
        grid.removeQuote(1);
        grid.lift(0);
        Check.type(grid, "a1 ");
        Check.due("restore(0)", grid.restore(0), 1);
        Check.due("the articles", grid.count(0), 1);
        Check.due("the start", grid.article(0, 0), 0);
        Check.due("the sentences", grid.article(0, 2), 2);
        Check.due("the quotes", grid.count(1), 2);
        Check.due("the place", grid.module(110), 21);
        Check.due("the rule", grid.count(5), 7);
        Check.due("the text is no part of it", grid.count(12), 3);
        Check.due("the history is no part of it", grid.count(11), 5);
        grid.removeArticle(0);
        Check.due("the snapshot stays", grid.restore(0), 1);
        Check.due("and is not changed by what comes after", grid.count(0), 1);
        grid.undo();
        Check.due("restore is an action", grid.count(0), 0);
        for (int slot : new int[] {-1, 2, Integer.MIN_VALUE, Integer.MAX_VALUE}) {
            Check.refuses("restore(" + slot + ")", g -> g.take(0), g -> g.restore(slot), Check.INVALID);
        }
        Check.refuses("restore(1) without a snapshot", g -> g.take(0), g -> g.restore(1), Check.ILLEGAL);
    }

    private static void promise14Undo() {
        QuoteGrid grid = new QuoteGrid();
        for (int length = 1; length <= 6; length++) {
            grid.addArticle(0, length);
        }
        grid.setArticle(0, 1, 50);
        Check.due("five states are kept", grid.count(11), 5);
        Check.type(grid, "abc");
        for (int left = 4; left >= 0; left--) {
            Check.due("undo()", grid.undo(), left);
        }
        Check.due("the oldest states were dropped", grid.count(0), 2);
        Check.due("the length", grid.article(0, 1), 1);
        Check.due("the text is no part of a state", grid.count(12), 3);
        Check.due("undo() of an empty history", grid.undo(), Check.ILLEGAL);
        Check.due("nothing changed by it", grid.count(0), 2);
        grid.addArticle(9, 9);
        Check.due("undo is no action", grid.undo(), 0);
        Check.due("no states are left", grid.count(11), 0);
    }

    private static void promise14UndoOfSnapshots() {
        QuoteGrid grid = onePlaced();
        grid.take(0);
        grid.lift(0);
        grid.take(0);
        grid.undo();
        Check.due("the previous snapshot is back", grid.restore(0), 1);
        grid.undo();
        grid.undo();
        grid.undo();
        Check.due("and gone with the state ahead of it", grid.restore(0), Check.ILLEGAL);
        Check.due("no snapshots", grid.count(10), 0);
    }
}
