import java.util.Arrays;

/** Long runs of made-up calls on QuoteGrid and on the model side by side: every answer must be the same. */
public final class ModelTest {
    private static final int RUNS = 60;
    private static final int CALLS = 512;
    private static final int[] ODD = {Integer.MIN_VALUE, -2, -1, 400, Integer.MAX_VALUE};

    private static final int[] REASONS = new int[7];

    private static long seed;
    private static QuoteGrid grid;
    private static Model model;
    private static int calls;

    public static void main(String[] args) {
        int[] actions = new int[12];
        for (int run = 0; run < RUNS; run++) {
            seed = run * 7919L + 17;
            grid = new QuoteGrid();
            model = new Model();
            calls = 0;
            while (calls < CALLS) {
                if (below(60) == 0) {
                    typeText();
                } else {
                    callAny(run, actions);
                }
            }
        }
        System.out.println("actions: " + Arrays.toString(actions) + ", reasons: " + Arrays.toString(REASONS));
        for (int reason = 0; reason < REASONS.length; reason++) {
            Check.due("some place is refused for the reason " + reason, Math.min(REASONS[reason], 1), 1);
        }
        Check.end();
    }

    /** A number from 0 to bound - 1, always the same ones in the same order. */
    private static int below(int bound) {
        seed = seed * 6364136223846793005L + 1442695040888963407L;
        return (int) ((seed >>> 33) % bound);
    }

    /** Mostly a number of this range, rarely one beside it. */
    private static int number(int least, int greatest) {
        int choice = below(40);
        if (choice == 0) {
            return ODD[below(ODD.length)];
        }
        if (choice == 1) {
            return greatest + 1;
        }
        return greatest < least ? least : least + below(greatest - least + 1);
    }

    private static int anyArticle() {
        return number(0, model.count(0) - 1);
    }

    private static int anyQuote() {
        return number(0, model.count(1) - 1);
    }

    private static int anySentence(int article) {
        return number(0, Math.max(0, model.article(article, 2)) - 1);
    }

    private static int anyLine(int article) {
        return number(0, Math.max(1, model.article(article, 1)) - 1);
    }

    private static int anyLength() {
        return below(3) == 0 ? number(1, 200) : number(1, 70);
    }

    private static void typeText() {
        StringBuilder text = new StringBuilder();
        int items = below(5);
        for (int i = 0; i < items; i++) {
            if (below(2) == 0) {
                int length = number(1, 90);
                text.append('a').append(number(0, 359)).append(' ').append(length);
                int lines = below(5);
                for (int j = 0; j < lines; j++) {
                    text.append(j == 0 ? ':' : ',').append(number(0, Math.max(1, Math.min(length, 500)) - 1));
                }
            } else {
                text.append('q').append(anyArticle()).append(' ').append(number(0, 2)).append(' ');
                text.append(number(1, 3)).append('x').append(number(1, 6));
            }
            text.append(';');
        }
        if (below(2) == 0 && text.length() > 0) {
            text.setCharAt(below(text.length()), "aq;:,x 09".charAt(below(9)));
        }
        if (below(3) == 0) {
            text.insert(below(text.length() + 1), ' ');
        }
        for (int i = 0; i < text.length() && i < 140 && calls < CALLS - 1; i++) {
            same("append", grid.append(text.charAt(i)), model.append(text.charAt(i)));
        }
        same("load() of " + text, grid.load(), model.load());
        if (below(2) == 0 && calls < CALLS) {
            same("clearText()", grid.clearText(), model.clearText());
        }
    }

    private static void callAny(int run, int[] actions) {
        int choice = below(44);
        int got;
        if (choice < 24) {
            got = callAction(run, choice);
            if (got >= 0) {
                actions[Math.min(choice / 2, actions.length - 1)]++;
            }
        } else if (choice < 32) {
            askWhatWouldBe(run, choice);
        } else {
            look(run, choice);
        }
    }

    private static int callAction(int run, int choice) {
        int article = anyArticle();
        int quote = anyQuote();
        int a;
        int b;
        switch (choice / 2) {
            case 0:
                a = number(0, 359);
                b = anyLength();
                return same(run + ": addArticle(" + a + ", " + b + ")", grid.addArticle(a, b), model.addArticle(a, b));
            case 1:
                if (below(4) != 0) {
                    return same(run + ": undo()", grid.undo(), model.undo());
                }
                return same(run + ": removeArticle(" + article + ")", grid.removeArticle(article),
                        model.removeArticle(article));
            case 2:
                a = number(0, 1);
                b = a == 0 ? number(0, 359) : anyLength();
                return same(run + ": setArticle(" + article + ", " + a + ", " + b + ")",
                        grid.setArticle(article, a, b), model.setArticle(article, a, b));
            case 3:
                a = anyLine(article);
                return same(run + ": addSentence(" + article + ", " + a + ")", grid.addSentence(article, a),
                        model.addSentence(article, a));
            case 4:
                a = anySentence(article);
                return addQuote(run, article, a);
            case 5:
                if (below(4) != 0) {
                    return addQuote(run, article, anySentence(article));
                }
                return same(run + ": removeQuote(" + quote + ")", grid.removeQuote(quote), model.removeQuote(quote));
            case 6:
            case 7:
            case 8:
                return place(run, quote);
            case 9:
                if (below(2) == 0) {
                    return same(run + ": floatAll()", grid.floatAll(), model.floatAll());
                }
                return same(run + ": lift(" + quote + ")", grid.lift(quote), model.lift(quote));
            case 10:
                a = number(0, 2);
                b = number(0, below(2) == 0 ? 20 : 3);
                return same(run + ": setRule(" + a + ", " + b + ")", grid.setRule(a, b), model.setRule(a, b));
            default:
                a = number(0, 1);
                if (below(2) == 0) {
                    return same(run + ": take(" + a + ")", grid.take(a), model.take(a));
                }
                return same(run + ": restore(" + a + ")", grid.restore(a), model.restore(a));
        }
    }

    private static int addQuote(int run, int article, int sentence) {
        int width = number(1, 3);
        int height = number(1, 6);
        return same(run + ": addQuote(" + article + ", " + sentence + ", " + width + ", " + height + ")",
                grid.addQuote(article, sentence, width, height), model.addQuote(article, sentence, width, height));
    }

    /** A place on the page of the quote's article, if it has a line, for else most places are refused. */
    private static int anyPage(int quote) {
        int module = model.article(model.quote(quote, 0), 5 + below(2));
        return module < 0 || below(4) == 0 ? number(0, 2) : module / 120;
    }

    private static int place(int run, int quote) {
        int page = anyPage(quote);
        int column = number(0, 5);
        int row = number(0, 19);
        return same(run + ": place(" + quote + ", " + page + ", " + column + ", " + row + ")",
                grid.place(quote, page, column, row), model.place(quote, page, column, row));
    }

    private static void askWhatWouldBe(int run, int choice) {
        int quote = anyQuote();
        if (choice < 28) {
            int page = anyPage(quote);
            int column = number(0, 5);
            int row = number(0, 19);
            int reason = same(run + ": refusal(" + quote + ", " + page + ", " + column + ", " + row + ")",
                    grid.refusal(quote, page, column, row), model.refusal(quote, page, column, row));
            if (reason >= 0) {
                REASONS[reason]++;
            }
        } else if (choice < 29) {
            int what = number(0, 1);
            same(run + ": bestPlace(" + quote + ", " + what + ")", grid.bestPlace(quote, what),
                    model.bestPlace(quote, what));
        } else if (choice < 30) {
            int article = anyArticle();
            same(run + ": roomFor(" + article + ")", grid.roomFor(article), model.roomFor(article));
        } else {
            same(run + ": troubled()", grid.troubled(), model.troubled());
        }
    }

    private static void look(int run, int choice) {
        int article = anyArticle();
        int what;
        switch (choice) {
            case 32:
            case 33:
                what = number(0, 12);
                same(run + ": count(" + what + ")", grid.count(what), model.count(what));
                break;
            case 34:
            case 35:
                what = number(0, 6);
                same(run + ": article(" + article + ", " + what + ")", grid.article(article, what),
                        model.article(article, what));
                break;
            case 36:
                what = anyLine(article);
                same(run + ": lineAt(" + article + ", " + what + ")", grid.lineAt(article, what),
                        model.lineAt(article, what));
                break;
            case 37:
                int sentence = anySentence(article);
                what = number(0, 1);
                same(run + ": sentence(" + article + ", " + sentence + ", " + what + ")",
                        grid.sentence(article, sentence, what), model.sentence(article, sentence, what));
                break;
            case 38:
            case 39:
                int quote = anyQuote();
                what = number(0, 7);
                same(run + ": quote(" + quote + ", " + what + ")", grid.quote(quote, what), model.quote(quote, what));
                break;
            case 40:
            case 41:
                what = number(0, 359);
                same(run + ": module(" + what + ")", grid.module(what), model.module(what));
                break;
            default:
                int page = number(0, 2);
                what = number(0, 2);
                same(run + ": page(" + page + ", " + what + ")", grid.page(page, what), model.page(page, what));
                break;
        }
    }

    private static int same(String call, int got, int want) {
        calls++;
        Check.due(call, got, want);
        return got;
    }
}
