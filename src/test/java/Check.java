import java.util.function.Consumer;
import java.util.function.Supplier;
import java.util.function.ToIntFunction;

/** What the tests share: comparing answers, building objects, and telling that nothing changed. */
final class Check {
    static final int INVALID = -1;
    static final int ILLEGAL = -2;
    static final int FULL = -3;
    static final int NONE = -99;
    static final int[] FAR_OUT = {Integer.MIN_VALUE, -1000, 1000, Integer.MAX_VALUE};

    private static int asked = 0;
    private static int wrong = 0;
    private static String subject = "";

    private Check() {
    }

    /** A call that is asked with one number. */
    interface Asking {
        int ask(QuoteGrid grid, int value);
    }

    /** How many answers have been compared. */
    static int asked() {
        return asked;
    }

    /** Names what the next checks are about. */
    static void subject(String words) {
        subject = words;
    }

    static void due(String call, int got, int want) {
        holds(call + " answered " + got + ", due is " + want, got == want);
    }

    static void holds(String complaint, boolean right) {
        asked++;
        if (!right) {
            wrong++;
            System.out.println(subject.isEmpty() ? complaint : subject + ": " + complaint);
        }
    }

    /** Checks that a call answers an error code and leaves the object as one that it was not called on. */
    static void refuses(String call, Consumer<QuoteGrid> setup, ToIntFunction<QuoteGrid> asking, int want) {
        due(call, asking.applyAsInt(made(setup)), want);
        Supplier<QuoteGrid> untouched = () -> made(setup);
        Supplier<QuoteGrid> touched = () -> {
            QuoteGrid grid = made(setup);
            asking.applyAsInt(grid);
            return grid;
        };
        holds(call + " changed something", Look.everything(touched).equals(Look.everything(untouched)));
    }

    /**
     * Checks that a call records one state, and that undo() restores all but the text: on objects
     * with a short history; the setup may have made at most four states.
     */
    static void isAction(String call, Consumer<QuoteGrid> setup, ToIntFunction<QuoteGrid> asking) {
        int before = made(setup).count(11);
        QuoteGrid acted = made(setup);
        int answer = asking.applyAsInt(acted);
        holds(call + " answered " + answer + " and did not succeed", answer >= 0);
        due("the states behind " + call, acted.count(11), before + 1);
        Supplier<QuoteGrid> untouched = () -> made(setup);
        Supplier<QuoteGrid> undone = () -> {
            QuoteGrid grid = made(setup);
            asking.applyAsInt(grid);
            grid.undo();
            return grid;
        };
        due("the states behind " + call + " and undo()", undone.get().count(11), before);
        holds("undo() behind " + call + " does not restore the state",
                Look.everythingOfAState(undone).equals(Look.everythingOfAState(untouched)));
    }

    /**
     * Checks both ends of the range of one argument: the least and the greatest value are taken and
     * answered as told; the ones beside them and far ones, also such that come into the range when
     * high bits are lost, are refused as out of range.
     */
    static void edges(String call, Consumer<QuoteGrid> setup, Asking asking,
            int least, int wantLeast, int greatest, int wantGreatest) {
        due(call + " with " + least, asking.ask(made(setup), least), wantLeast);
        due(call + " with " + greatest, asking.ask(made(setup), greatest), wantGreatest);
        refusesBeside(call, setup, asking, least, greatest);
    }

    /** The refused half of edges(), which serves also where the range is empty (greatest is least - 1). */
    static void refusesBeside(String call, Consumer<QuoteGrid> setup, Asking asking, int least, int greatest) {
        int[] beside = {least - 1, greatest + 1, least + 256, least - 256, least + 65536, greatest - 65536,
            Integer.MIN_VALUE, Integer.MIN_VALUE + least, Integer.MAX_VALUE, Integer.MAX_VALUE - 1};
        for (int value : beside) {
            if (value < least || value > greatest) {
                refuses(call + " with " + value, setup, grid -> asking.ask(grid, value), INVALID);
            }
        }
    }

    static QuoteGrid made(Consumer<QuoteGrid> setup) {
        QuoteGrid grid = new QuoteGrid();
        setup.accept(grid);
        return grid;
    }

    static void type(QuoteGrid grid, String text) {
        for (int i = 0; i < text.length(); i++) {
            grid.append(text.charAt(i));
        }
    }

    /** Lets an object read this text, which must have no error. */
    static void load(QuoteGrid grid, String text) {
        type(grid, text);
        int items = grid.load();
        if (items < 0) {
            holds("the text " + text + " was not read: " + items, false);
        }
    }

    /** An object that has read this text, and no other call is on its history. */
    static QuoteGrid read(String text) {
        return made(grid -> load(grid, text));
    }

    /** What load() answers to this text on a new object. */
    static int loading(String text) {
        return made(grid -> type(grid, text)).load();
    }

    static void end() {
        System.out.println(asked + " checks, " + wrong + " wrong");
        if (wrong != 0 || asked == 0) {
            System.exit(1);
        }
    }
}
