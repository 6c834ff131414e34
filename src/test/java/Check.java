import java.util.ArrayList;
import java.util.List;
import java.util.function.Consumer;
import java.util.function.ToIntFunction;

/** What the tests share: comparing answers, building objects, and telling that nothing changed. */
final class Check {
    static final int INVALID = -1;
    static final int ILLEGAL = -2;
    static final int FULL = -3;
    static final int NONE = -99;
    static final int[] FAR_OUT = {Integer.MIN_VALUE, -1000, 1000, Integer.MAX_VALUE};

    private static int asked = 0;
    private static int wrong = 0;

    private Check() {
    }

    static void due(String call, int got, int want) {
        asked++;
        if (got != want) {
            wrong++;
            System.out.println(call + " answered " + got + ", due is " + want);
        }
    }

    /** Checks that a call answers an error code and leaves the object as one that it was not called on. */
    static void refuses(String call, Consumer<QuoteGrid> setup, ToIntFunction<QuoteGrid> asking, int want) {
        QuoteGrid touched = new QuoteGrid();
        QuoteGrid untouched = new QuoteGrid();
        setup.accept(touched);
        setup.accept(untouched);
        due(call, asking.applyAsInt(touched), want);
        asked++;
        if (!looks(touched).equals(looks(untouched))) {
            wrong++;
            System.out.println(call + " changed something");
        }
    }

    /** All that can be seen, then the counts while the history is undone. */
    private static List<Integer> looks(QuoteGrid grid) {
        List<Integer> seen = new ArrayList<>();
        lookAtCounts(grid, seen);
        for (int article = 0; article < grid.count(0); article++) {
            for (int what = 0; what <= 6; what++) {
                seen.add(grid.article(article, what));
            }
            for (int sentence = 0; sentence < grid.article(article, 2); sentence++) {
                seen.add(grid.sentence(article, sentence, 0));
                seen.add(grid.sentence(article, sentence, 1));
            }
        }
        for (int quote = 0; quote < grid.count(1); quote++) {
            for (int what = 0; what <= 7; what++) {
                seen.add(grid.quote(quote, what));
            }
        }
        for (int page = 0; page < 3; page++) {
            for (int what = 0; what <= 2; what++) {
                seen.add(grid.page(page, what));
            }
        }
        for (int i = 0; i < 6; i++) {
            seen.add(grid.undo());
            lookAtCounts(grid, seen);
        }
        seen.add(grid.load());
        return seen;
    }

    private static void lookAtCounts(QuoteGrid grid, List<Integer> seen) {
        for (int what = 0; what <= 12; what++) {
            seen.add(grid.count(what));
        }
    }

    static void type(QuoteGrid grid, String text) {
        for (int i = 0; i < text.length(); i++) {
            grid.append(text.charAt(i));
        }
    }

    /** An object that has read this text, and no other call is on its history. */
    static QuoteGrid read(String text) {
        QuoteGrid grid = new QuoteGrid();
        type(grid, text);
        int items = grid.load();
        if (items < 0) {
            wrong++;
            System.out.println("the text " + text + " was not read: " + items);
        }
        return grid;
    }

    /** What load() answers to this text on a new object. */
    static int loading(String text) {
        QuoteGrid grid = new QuoteGrid();
        type(grid, text);
        return grid.load();
    }

    static void end() {
        System.out.println(asked + " checks, " + wrong + " wrong");
        if (wrong != 0 || asked == 0) {
            System.exit(1);
        }
    }
}
