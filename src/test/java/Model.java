import java.util.ArrayDeque;
import java.util.ArrayList;
import java.util.Deque;
import java.util.HashMap;
import java.util.List;
import java.util.Map;

/** The document once more, word by word and without regard for time, as a measure for QuoteGrid. */
final class Model {
    private static final int INVALID = -1;
    private static final int ILLEGAL = -2;
    private static final int FULL = -3;
    private static final int NONE = -99;

    private record Article(int start, int length, List<Integer> lines) {
        Article with(int newStart, int newLength) {
            return new Article(newStart, newLength, lines);
        }

        Article plus(int line) {
            List<Integer> more = new ArrayList<>(lines);
            more.add(line);
            return new Article(start, length, more);
        }
    }

    private record Place(int page, int column, int row) {
        int number() {
            return page * 120 + column * 20 + row;
        }
    }

    private record Quote(int article, int sentence, int width, int height, Place place) {
        Quote at(Place other) {
            return new Quote(article, sentence, width, height, other);
        }

        List<Integer> columns() {
            return run(place.column, width);
        }

        List<Integer> rows() {
            return run(place.row, height);
        }
    }

    private record Content(List<Article> articles, List<Quote> quotes, List<Integer> rules) {
        Content copy() {
            return new Content(new ArrayList<>(articles), new ArrayList<>(quotes), new ArrayList<>(rules));
        }
    }

    private record State(Content content, Content first, Content second) {
    }

    /** Where everything lies: the lines of each article (null if overset), the notices, all takers. */
    private record Laid(List<List<Integer>> lines, List<List<Integer>> notices, Map<Integer, Integer> takers) {
        int overset(int article) {
            int overset = 0;
            for (Integer module : lines.get(article)) {
                if (module == null) {
                    overset++;
                }
            }
            return overset;
        }
    }

    private static final class TextError extends Exception {
        private static final long serialVersionUID = 1;
        private final int offset;

        TextError(int offset) {
            this.offset = offset;
        }
    }

    private Content content = new Content(new ArrayList<>(), new ArrayList<>(), new ArrayList<>(List.of(3, 12, 2)));
    private Content[] snapshots = new Content[2];
    private final Deque<State> history = new ArrayDeque<>();
    private final StringBuilder text = new StringBuilder();

    private static List<Integer> run(int from, int size) {
        List<Integer> run = new ArrayList<>();
        for (int i = 0; i < size; i++) {
            run.add(from + i);
        }
        return run;
    }

    private static boolean in(int value, int least, int greatest) {
        return least <= value && value <= greatest;
    }

    private void action() {
        Content first = snapshots[0] == null ? null : snapshots[0].copy();
        Content second = snapshots[1] == null ? null : snapshots[1].copy();
        history.addLast(new State(content.copy(), first, second));
        if (history.size() == 6) {
            history.removeFirst();
        }
    }

    private boolean isArticle(int article) {
        return in(article, 0, content.articles.size() - 1);
    }

    private boolean isQuote(int quote) {
        return in(quote, 0, content.quotes.size() - 1);
    }

    private boolean isSentence(int article, int sentence) {
        return isArticle(article) && in(sentence, 0, content.articles.get(article).lines.size() - 1);
    }

    private static boolean isPlace(int page, int column, int row) {
        return in(page, 0, 2) && in(column, 0, 5) && in(row, 0, 19);
    }

    int addArticle(int start, int length) {
        if (!in(start, 0, 359) || !in(length, 1, 200)) {
            return INVALID;
        }
        if (content.articles.size() == 6) {
            return FULL;
        }
        action();
        content.articles.add(new Article(start, length, List.of()));
        return content.articles.size() - 1;
    }

    int removeArticle(int article) {
        if (!isArticle(article)) {
            return INVALID;
        }
        action();
        content.articles.remove(article);
        List<Quote> left = new ArrayList<>();
        for (Quote quote : content.quotes) {
            if (quote.article != article) {
                int number = quote.article > article ? quote.article - 1 : quote.article;
                left.add(new Quote(number, quote.sentence, quote.width, quote.height, quote.place));
            }
        }
        content.quotes.clear();
        content.quotes.addAll(left);
        return content.articles.size();
    }

    int setArticle(int article, int what, int value) {
        if (!isArticle(article) || !in(what, 0, 1)) {
            return INVALID;
        }
        Article old = content.articles.get(article);
        if (what == 0 ? !in(value, 0, 359) : !in(value, 1, 200)) {
            return INVALID;
        }
        for (int line : old.lines) {
            if (what == 1 && value <= line) {
                return INVALID;
            }
        }
        action();
        content.articles.set(article, what == 0 ? old.with(value, old.length) : old.with(old.start, value));
        return what == 0 ? old.start : old.length;
    }

    int addSentence(int article, int line) {
        if (!isArticle(article) || !in(line, 0, content.articles.get(article).length - 1)) {
            return INVALID;
        }
        if (content.articles.get(article).lines.size() == 8) {
            return FULL;
        }
        action();
        content.articles.set(article, content.articles.get(article).plus(line));
        return content.articles.get(article).lines.size() - 1;
    }

    int addQuote(int article, int sentence, int width, int height) {
        if (!isSentence(article, sentence) || !in(width, 1, 3) || !in(height, 1, 6)) {
            return INVALID;
        }
        if (content.quotes.size() == 8) {
            return FULL;
        }
        action();
        content.quotes.add(new Quote(article, sentence, width, height, null));
        return content.quotes.size() - 1;
    }

    int removeQuote(int quote) {
        if (!isQuote(quote)) {
            return INVALID;
        }
        action();
        content.quotes.remove(quote);
        return content.quotes.size();
    }

    int place(int quote, int page, int column, int row) {
        int reason = refusal(quote, page, column, row);
        if (reason != 0) {
            return reason < 0 ? INVALID : ILLEGAL;
        }
        action();
        content.quotes.set(quote, content.quotes.get(quote).at(new Place(page, column, row)));
        return unrest(content);
    }

    int lift(int quote) {
        if (!isQuote(quote)) {
            return INVALID;
        }
        if (content.quotes.get(quote).place == null) {
            return ILLEGAL;
        }
        action();
        content.quotes.set(quote, content.quotes.get(quote).at(null));
        return unrest(content);
    }

    int floatAll() {
        action();
        int floated = 0;
        for (int i = 0; i < content.quotes.size(); i++) {
            if (content.quotes.get(i).place == null) {
                Place best = best(i);
                if (best != null) {
                    content.quotes.set(i, content.quotes.get(i).at(best));
                    floated++;
                }
            }
        }
        return floated;
    }

    int setRule(int what, int value) {
        if (!in(what, 0, 2) || !in(value, what == 2 ? 1 : 0, what == 1 ? 20 : 10)) {
            return INVALID;
        }
        if (what == 0 && value > content.rules.get(1) || what == 1 && value < content.rules.get(0)) {
            return INVALID;
        }
        action();
        return content.rules.set(what, value);
    }

    int take(int slot) {
        if (!in(slot, 0, 1)) {
            return INVALID;
        }
        action();
        snapshots[slot] = content.copy();
        return placed();
    }

    int restore(int slot) {
        if (!in(slot, 0, 1)) {
            return INVALID;
        }
        if (snapshots[slot] == null) {
            return ILLEGAL;
        }
        action();
        content = snapshots[slot].copy();
        return placed();
    }

    int undo() {
        if (history.isEmpty()) {
            return ILLEGAL;
        }
        State state = history.removeLast();
        content = state.content;
        snapshots = new Content[] {state.first, state.second};
        return history.size();
    }

    int append(int character) {
        if (!in(character, 1, 255)) {
            return INVALID;
        }
        if (text.length() == 140) {
            return FULL;
        }
        text.append((char) character);
        return text.length();
    }

    int clearText() {
        int length = text.length();
        text.setLength(0);
        return length;
    }

    int load() {
        Content before = content;
        content = content.copy();
        try {
            int items = new Parser().items();
            Content after = content;
            content = before;
            action();
            content = after;
            text.setLength(0);
            return items;
        } catch (TextError error) {
            content = before;
            return -1000 - error.offset;
        }
    }

    /** Reads the text into the content, item by item. */
    private final class Parser {
        private int offset = 0;

        int items() throws TextError {
            int items = 0;
            while (peek() != 0) {
                int at = offset;
                if (peek() == 'a') {
                    if (content.articles.size() == 6) {
                        throw new TextError(at);
                    }
                    offset++;
                    article();
                } else if (peek() == 'q') {
                    if (content.quotes.size() == 8) {
                        throw new TextError(at);
                    }
                    offset++;
                    quote();
                } else {
                    throw new TextError(at);
                }
                sign(';');
                items++;
            }
            return items;
        }

        private int peek() {
            while (offset < text.length() && text.charAt(offset) == ' ') {
                offset++;
            }
            return offset == text.length() ? 0 : text.charAt(offset);
        }

        private void sign(int wanted) throws TextError {
            if (peek() != wanted) {
                throw new TextError(offset);
            }
            offset++;
        }

        private int number(int least, int greatest) throws TextError {
            peek();
            int first = offset;
            while (offset < text.length() && in(text.charAt(offset), '0', '9')) {
                offset++;
            }
            String digits = text.substring(first, offset);
            boolean allowed = !digits.isEmpty() && digits.length() < 5
                    && (digits.length() == 1 || digits.charAt(0) != '0')
                    && in(Integer.parseInt(digits), least, greatest);
            if (!allowed) {
                throw new TextError(first);
            }
            return Integer.parseInt(digits);
        }

        private void article() throws TextError {
            int start = number(0, 359);
            int length = number(1, 200);
            Article read = new Article(start, length, List.of());
            boolean more = peek() == ':';
            while (more) {
                offset++;
                peek();
                int first = offset;
                int line = number(0, length - 1);
                if (read.lines.size() == 8) {
                    throw new TextError(first);
                }
                read = read.plus(line);
                more = peek() == ',';
            }
            content.articles.add(read);
        }

        private void quote() throws TextError {
            int article = number(0, content.articles.size() - 1);
            int sentence = number(0, content.articles.get(article).lines.size() - 1);
            int width = number(1, 3);
            sign('x');
            int height = number(1, 6);
            content.quotes.add(new Quote(article, sentence, width, height, null));
        }
    }

    int count(int what) {
        Laid laid = lay(content);
        int overset = 0;
        int jumps = 0;
        for (int i = 0; i < content.articles.size(); i++) {
            overset += laid.overset(i);
            jumps += laid.notices.get(i).size();
        }
        int taken = (snapshots[0] == null ? 0 : 1) + (snapshots[1] == null ? 0 : 1);
        int[] counts = {content.articles.size(), content.quotes.size(), placed(), content.rules.get(0),
            content.rules.get(1), content.rules.get(2), overset, jumps, laid.takers.size(), unrest(content),
            taken, history.size(), text.length()};
        return in(what, 0, 12) ? counts[what] : INVALID;
    }

    int article(int article, int what) {
        if (!isArticle(article) || !in(what, 0, 6)) {
            return INVALID;
        }
        Article asked = content.articles.get(article);
        Laid laid = lay(content);
        int first = NONE;
        int last = NONE;
        for (Integer module : laid.lines.get(article)) {
            if (module != null) {
                first = first == NONE ? module : first;
                last = module;
            }
        }
        int[] properties = {asked.start, asked.length, asked.lines.size(), laid.overset(article),
            laid.notices.get(article).size(), first, last};
        return properties[what];
    }

    int lineAt(int article, int line) {
        if (!isArticle(article) || !in(line, 0, content.articles.get(article).length - 1)) {
            return INVALID;
        }
        Integer module = lay(content).lines.get(article).get(line);
        return module == null ? NONE : module;
    }

    int sentence(int article, int sentence, int what) {
        if (!isSentence(article, sentence) || !in(what, 0, 1)) {
            return INVALID;
        }
        int line = content.articles.get(article).lines.get(sentence);
        return what == 0 ? line : lineAt(article, line);
    }

    int quote(int quote, int what) {
        if (!isQuote(quote) || !in(what, 0, 7)) {
            return INVALID;
        }
        Quote asked = content.quotes.get(quote);
        Place place = asked.place == null ? new Place(NONE, NONE, NONE) : asked.place;
        int[] properties = {asked.article, asked.sentence, asked.width, asked.height, place.page, place.column,
            place.row, sentenceDistance(content, lay(content), asked)};
        return properties[what];
    }

    int module(int module) {
        if (!in(module, 0, 359)) {
            return INVALID;
        }
        return lay(content).takers.getOrDefault(module, 0);
    }

    int page(int page, int what) {
        if (!in(page, 0, 2) || !in(what, 0, 2)) {
            return INVALID;
        }
        int[] seen = {balance(content, page), 0, 0};
        lay(content).takers.forEach((module, taker) -> {
            if (module / 120 == page) {
                seen[taker > 20 ? 1 : 2]++;
            }
        });
        return seen[what];
    }

    int refusal(int quote, int page, int column, int row) {
        if (!isQuote(quote) || !isPlace(page, column, row)) {
            return INVALID;
        }
        return reason(quote, new Place(page, column, row));
    }

    int bestPlace(int quote, int what) {
        if (!isQuote(quote) || !in(what, 0, 1)) {
            return INVALID;
        }
        Place best = best(quote);
        if (best == null) {
            return NONE;
        }
        return what == 0 ? best.number() : unrest(moved(quote, best));
    }

    int troubled() {
        int troubled = 0;
        for (int i = 0; i < content.quotes.size(); i++) {
            Place place = content.quotes.get(i).place;
            if (place != null && reason(i, place) != 0) {
                troubled++;
            }
        }
        return troubled;
    }

    int roomFor(int article) {
        if (!isArticle(article)) {
            return INVALID;
        }
        Laid now = lay(content);
        for (int length = 200; length > content.articles.get(article).length; length--) {
            Content longer = content.copy();
            longer.articles.set(article, new Article(content.articles.get(article).start, length, List.of()));
            Laid then = lay(longer);
            if (!moreOverset(then, now)) {
                return length;
            }
        }
        return content.articles.get(article).length;
    }

    private static boolean moreOverset(Laid then, Laid now) {
        for (int i = 0; i < now.lines.size(); i++) {
            if (then.overset(i) > now.overset(i)) {
                return true;
            }
        }
        return false;
    }

    private static Laid lay(Content content) {
        Laid laid = new Laid(new ArrayList<>(), new ArrayList<>(), new HashMap<>());
        for (int i = 0; i < content.quotes.size(); i++) {
            Quote quote = content.quotes.get(i);
            if (quote.place != null) {
                for (int column : quote.columns()) {
                    for (int row : quote.rows()) {
                        laid.takers.put(new Place(quote.place.page, column, row).number(), 21 + i);
                    }
                }
            }
        }
        for (int i = 0; i < content.articles.size(); i++) {
            Article article = content.articles.get(i);
            List<Integer> lines = new ArrayList<>();
            List<Integer> notices = new ArrayList<>();
            for (int module = article.start; module < 360 && lines.size() < article.length; module++) {
                if (!laid.takers.containsKey(module)) {
                    int page = module / 120;
                    boolean earlier = lines.stream().anyMatch(line -> line / 120 < page);
                    boolean here = lines.stream().anyMatch(line -> line / 120 == page)
                            || notices.stream().anyMatch(notice -> notice / 120 == page);
                    boolean jump = earlier && !here;
                    (jump ? notices : lines).add(module);
                    laid.takers.put(module, (jump ? 11 : 1) + i);
                }
            }
            while (lines.size() < article.length) {
                lines.add(null);
            }
            laid.lines.add(lines);
            laid.notices.add(notices);
        }
        return laid;
    }

    private static int difference(List<Integer> some, List<Integer> others) {
        int least = Integer.MAX_VALUE;
        for (int one : some) {
            for (int other : others) {
                least = Math.min(least, Math.abs(one - other));
            }
        }
        return least;
    }

    private static int sentenceDistance(Content content, Laid laid, Quote quote) {
        int line = content.articles.get(quote.article).lines.get(quote.sentence);
        Integer module = laid.lines.get(quote.article).get(line);
        if (quote.place == null || module == null || module / 120 != quote.place.page) {
            return NONE;
        }
        return Math.max(difference(quote.columns(), List.of(module % 120 / 20)),
                difference(quote.rows(), List.of(module % 20)));
    }

    private Content moved(int quote, Place place) {
        Content moved = content.copy();
        moved.quotes.set(quote, content.quotes.get(quote).at(place));
        return moved;
    }

    private int reason(int number, Place place) {
        Content without = moved(number, null);
        Content with = moved(number, place);
        Quote quote = with.quotes.get(number);
        if (place.column + quote.width > 6 || place.row + quote.height > 20) {
            return 1;
        }
        for (int i = 0; i < with.quotes.size(); i++) {
            Quote other = with.quotes.get(i);
            if (i != number && other.place != null && other.place.page == place.page
                    && Math.max(difference(quote.columns(), other.columns()),
                            difference(quote.rows(), other.rows())) < with.rules.get(2)) {
                return 2;
            }
        }
        Laid laid = lay(with);
        if (moreOverset(laid, lay(without))) {
            return 3;
        }
        boolean hasLine = false;
        for (Integer module : laid.lines.get(quote.article)) {
            hasLine |= module != null && module / 120 == place.page;
        }
        if (!hasLine) {
            return 4;
        }
        if (isBad(with, laid, quote)) {
            return 5;
        }
        for (int i = 0; i < with.quotes.size(); i++) {
            if (i != number && isBad(with, laid, with.quotes.get(i))) {
                return 6;
            }
        }
        return 0;
    }

    private static boolean isBad(Content content, Laid laid, Quote quote) {
        int distance = sentenceDistance(content, laid, quote);
        return distance != NONE && (distance < content.rules.get(0) || distance > content.rules.get(1));
    }

    private Place best(int quote) {
        Place best = null;
        for (int page = 0; page < 3; page++) {
            for (int column = 0; column < 6; column++) {
                for (int row = 0; row < 20; row++) {
                    Place place = new Place(page, column, row);
                    if (reason(quote, place) == 0
                            && (best == null || unrest(moved(quote, place)) < unrest(moved(quote, best)))) {
                        best = place;
                    }
                }
            }
        }
        return best;
    }

    private int placed() {
        int placed = 0;
        for (Quote quote : content.quotes) {
            placed += quote.place == null ? 0 : 1;
        }
        return placed;
    }

    private static int balance(Content content, int page) {
        int left = 0;
        int right = 0;
        for (Quote quote : content.quotes) {
            if (quote.place != null && quote.place.page == page) {
                for (int column : quote.columns()) {
                    left += column < 3 ? quote.height : 0;
                    right += column < 3 ? 0 : quote.height;
                }
            }
        }
        return Math.abs(left - right);
    }

    private static int unrest(Content content) {
        return balance(content, 0) + balance(content, 1) + balance(content, 2);
    }
}
