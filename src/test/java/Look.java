import java.util.ArrayList;
import java.util.List;
import java.util.function.Supplier;

/**
 * All that calls can tell about an object. Some of them change it, and one object is only good for
 * 512 calls, so that each part is looked at on an object of its own.
 */
final class Look {
    private static final int HISTORY = 11;
    private static final int TEXT = 12;

    private Look() {
    }

    /** Everything: what there is, the history with its states, the snapshots and the text. */
    static List<Integer> everything(Supplier<QuoteGrid> making) {
        List<Integer> seen = everythingOfAState(making);
        QuoteGrid undone = making.get();
        seen.add(undone.count(HISTORY));
        for (int i = 0; i < 6; i++) {
            seen.add(undone.undo());
            brief(undone, seen);
        }
        QuoteGrid reading = making.get();
        seen.add(reading.count(TEXT));
        seen.add(reading.load());
        brief(reading, seen);
        return seen;
    }

    /** What a state holds: everything but the text and the history. */
    static List<Integer> everythingOfAState(Supplier<QuoteGrid> making) {
        List<Integer> seen = new ArrayList<>();
        content(making.get(), seen);
        modules(making.get(), 0, 180, seen);
        modules(making.get(), 180, 360, seen);
        for (int slot = 0; slot <= 1; slot++) {
            QuoteGrid restored = making.get();
            seen.add(restored.restore(slot));
            content(restored, seen);
        }
        return seen;
    }

    private static void content(QuoteGrid grid, List<Integer> seen) {
        for (int what = 0; what < HISTORY; what++) {
            seen.add(grid.count(what));
        }
        for (int article = 0; article < grid.count(0); article++) {
            for (int what = 0; what <= 6; what++) {
                seen.add(grid.article(article, what));
            }
            for (int sentence = 0; sentence < grid.article(article, 2); sentence++) {
                seen.add(grid.sentence(article, sentence, 0));
                seen.add(grid.sentence(article, sentence, 1));
            }
        }
        for (int quote = 0; quote < grid.count(1); quote++) {
            for (int what = 0; what <= 7; what++) {
                seen.add(grid.quote(quote, what));
            }
        }
    }

    private static void brief(QuoteGrid grid, List<Integer> seen) {
        for (int what = 0; what < HISTORY; what++) {
            seen.add(grid.count(what));
        }
        for (int article = 0; article < 6; article++) {
            seen.add(grid.article(article, 0));
            seen.add(grid.article(article, 1));
        }
        for (int quote = 0; quote < 8; quote++) {
            seen.add(grid.quote(quote, 2));
            seen.add(grid.quote(quote, 5));
        }
    }

    private static void modules(QuoteGrid grid, int from, int to, List<Integer> seen) {
        for (int module = from; module < to; module++) {
            seen.add(grid.module(module));
        }
    }
}
