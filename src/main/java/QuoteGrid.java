import java.util.Arrays;

/**
 * Pull quotes in a grid of articles: three pages of modules, articles that flow through the free
 * modules, and quotes that push the text away. ../shared/DOC.md tells what every call answers.
 */
public final class QuoteGrid {
    public static final int INVALID_ARGUMENT = -1;
    public static final int ILLEGAL_STATE = -2;
    public static final int CAPACITY_EXCEEDED = -3;
    public static final int NONE = -99;

    private static final int PAGES = 3;
    private static final int COLUMNS = 6;
    private static final int ROWS = 20;
    private static final int PAGE_MODULES = COLUMNS * ROWS;
    private static final int MODULES = PAGES * PAGE_MODULES;
    private static final int LEFT_COLUMNS = 3;

    private static final int ARTICLE_LIMIT = 6;
    private static final int LENGTH_LIMIT = 200;
    private static final int SENTENCE_LIMIT = 8;
    private static final int QUOTE_LIMIT = 8;
    private static final int WIDTH_LIMIT = 3;
    private static final int HEIGHT_LIMIT = 6;
    private static final int SLOTS = 2;
    private static final int HISTORY_LIMIT = 5;
    private static final int TEXT_LIMIT = 140;
    private static final int SIGN_LIMIT = 255;

    private static final int LEAST = 0;
    private static final int GREATEST = 1;
    private static final int GAP = 2;
    private static final int RULES = 3;
    private static final int LEAST_LIMIT = 10;
    private static final int GREATEST_LIMIT = 20;
    private static final int GAP_LIMIT = 10;

    private static final int FREE = 0;
    private static final int LINE_TAKER = 1;
    private static final int NOTICE_TAKER = 11;
    private static final int QUOTE_TAKER = 21;

    private static final int NOT_REFUSED = 0;
    private static final int OUTSIDE = 1;
    private static final int TOO_NEAR_A_QUOTE = 2;
    private static final int MORE_OVERSET = 3;
    private static final int NO_LINE_ON_PAGE = 4;
    private static final int BAD_DISTANCE = 5;
    private static final int BAD_DISTANCE_OF_ANOTHER = 6;

    private static final int LOAD_ERROR = -1000;

    private final State state;
    private final History history;
    private final Reader reader;
    private final Text text;
    private final Trial trial;
    private final Layout layout;
    private boolean layoutIsOld;

    public QuoteGrid() {
        state = new State();
        history = new History();
        reader = new Reader();
        text = reader.text;
        trial = new Trial();
        layout = new Layout();
        layoutIsOld = true;
    }

    // ---- articles and sentences

    public int addArticle(int start, int length) {
        Content content = state.content;
        if (!isModule(start) || !isWithin(length, 1, LENGTH_LIMIT)) {
            return INVALID_ARGUMENT;
        }
        if (content.articleCount >= ARTICLE_LIMIT) {
            return CAPACITY_EXCEEDED;
        }
        beginAction();
        return content.newArticle(start, length);
    }

    public int removeArticle(int article) {
        Content content = state.content;
        if (!content.hasArticle(article)) {
            return INVALID_ARGUMENT;
        }
        beginAction();
        content.dropArticle(article);
        return content.articleCount;
    }

    public int setArticle(int article, int what, int value) {
        Content content = state.content;
        if (!content.hasArticle(article) || !isWithin(what, 0, 1)) {
            return INVALID_ARGUMENT;
        }
        Article changed = content.articles[article];
        int previous;
        if (what == 0) {
            if (!isModule(value)) {
                return INVALID_ARGUMENT;
            }
            beginAction();
            previous = changed.start;
            changed.start = value;
        } else {
            if (!isWithin(value, changed.leastLength(), LENGTH_LIMIT)) {
                return INVALID_ARGUMENT;
            }
            beginAction();
            previous = changed.length;
            changed.length = value;
        }
        return previous;
    }

    public int addSentence(int article, int line) {
        Content content = state.content;
        if (!content.hasLine(article, line)) {
            return INVALID_ARGUMENT;
        }
        Article owner = content.articles[article];
        if (owner.sentenceCount >= SENTENCE_LIMIT) {
            return CAPACITY_EXCEEDED;
        }
        beginAction();
        return owner.newSentence(line);
    }

    // ---- quotes

    public int addQuote(int article, int sentence, int width, int height) {
        Content content = state.content;
        if (!content.hasSentence(article, sentence)
                || !isWithin(width, 1, WIDTH_LIMIT) || !isWithin(height, 1, HEIGHT_LIMIT)) {
            return INVALID_ARGUMENT;
        }
        if (content.quoteCount >= QUOTE_LIMIT) {
            return CAPACITY_EXCEEDED;
        }
        beginAction();
        return content.newQuote(article, sentence, width, height);
    }

    public int removeQuote(int quote) {
        Content content = state.content;
        if (!content.hasQuote(quote)) {
            return INVALID_ARGUMENT;
        }
        beginAction();
        content.dropQuote(quote);
        return content.quoteCount;
    }

    public int place(int quote, int page, int column, int row) {
        Content content = state.content;
        if (!content.hasQuote(quote) || !isPlace(page, column, row)) {
            return INVALID_ARGUMENT;
        }
        int first = moduleAt(page, column, row);
        trial.prepare(content, quote);
        if (trial.reasonAt(first) != NOT_REFUSED) {
            return ILLEGAL_STATE;
        }
        beginAction();
        content.quotes[quote].moveTo(first);
        return content.unrest();
    }

    public int lift(int quote) {
        Content content = state.content;
        if (!content.hasQuote(quote)) {
            return INVALID_ARGUMENT;
        }
        if (!content.quotes[quote].placed) {
            return ILLEGAL_STATE;
        }
        beginAction();
        content.quotes[quote].placed = false;
        return content.unrest();
    }

    public int floatAll() {
        Content content = state.content;
        beginAction();
        int floated = 0;
        for (int quote = 0; quote < content.quoteCount; quote++) {
            Quote next = content.quotes[quote];
            if (!next.placed) {
                trial.seekBest(content, quote);
                if (trial.bestModule != NONE) {
                    next.moveTo(trial.bestModule);
                    floated++;
                }
            }
        }
        return floated;
    }

    public int setRule(int what, int value) {
        int[] rules = state.content.rules;
        if (!isWithin(what, 0, RULES - 1)) {
            return INVALID_ARGUMENT;
        }
        boolean allowed;
        if (what == LEAST) {
            allowed = isWithin(value, 0, LEAST_LIMIT) && value <= rules[GREATEST];
        } else if (what == GREATEST) {
            allowed = isWithin(value, 0, GREATEST_LIMIT) && value >= rules[LEAST];
        } else {
            allowed = isWithin(value, 1, GAP_LIMIT);
        }
        if (!allowed) {
            return INVALID_ARGUMENT;
        }
        beginAction();
        int previous = rules[what];
        rules[what] = value;
        return previous;
    }

    // ---- snapshots

    public int take(int slot) {
        if (!isWithin(slot, 0, SLOTS - 1)) {
            return INVALID_ARGUMENT;
        }
        beginAction();
        state.snapshots[slot].copyFrom(state.content);
        state.snapshotTaken[slot] = true;
        return state.content.placedQuotes();
    }

    public int restore(int slot) {
        if (!isWithin(slot, 0, SLOTS - 1)) {
            return INVALID_ARGUMENT;
        }
        if (!state.snapshotTaken[slot]) {
            return ILLEGAL_STATE;
        }
        beginAction();
        state.content.copyFrom(state.snapshots[slot]);
        return state.content.placedQuotes();
    }

    public int undo() {
        if (history.size == 0) {
            return ILLEGAL_STATE;
        }
        history.giveBackTo(state);
        layoutIsOld = true;
        return history.size;
    }

    // ---- text

    public int append(int character) {
        if (!isWithin(character, 1, SIGN_LIMIT)) {
            return INVALID_ARGUMENT;
        }
        if (text.length >= TEXT_LIMIT) {
            return CAPACITY_EXCEEDED;
        }
        text.signs[text.length] = character;
        text.length++;
        return text.length;
    }

    public int clearText() {
        int previous = text.length;
        text.length = 0;
        return previous;
    }

    public int load() {
        reader.read(state.content);
        if (reader.hasFailed()) {
            return LOAD_ERROR - reader.errorPosition;
        }
        beginAction();
        state.content.copyFrom(reader.draft);
        text.length = 0;
        return reader.items;
    }

    // ---- looking

    public int count(int what) {
        Content content = state.content;
        switch (what) {
            case 0:
                return content.articleCount;
            case 1:
                return content.quoteCount;
            case 2:
                return content.placedQuotes();
            case 3:
                return content.rules[LEAST];
            case 4:
                return content.rules[GREATEST];
            case 5:
                return content.rules[GAP];
            case 6:
                return currentLayout().oversetInAll();
            case 7:
                return currentLayout().jumpsInAll();
            case 8:
                return currentLayout().takenBetween(0, MODULES, LINE_TAKER);
            case 9:
                return content.unrest();
            case 10:
                return state.snapshotCount();
            case 11:
                return history.size;
            case 12:
                return text.length;
            default:
                return INVALID_ARGUMENT;
        }
    }

    public int article(int article, int what) {
        if (!state.content.hasArticle(article)) {
            return INVALID_ARGUMENT;
        }
        Article looked = state.content.articles[article];
        Flow flow = currentLayout().flows[article];
        switch (what) {
            case 0:
                return looked.start;
            case 1:
                return looked.length;
            case 2:
                return looked.sentenceCount;
            case 3:
                return flow.overset;
            case 4:
                return flow.jumps;
            case 5:
                return flow.moduleOf(0);
            case 6:
                return flow.moduleOf(flow.laid - 1);
            default:
                return INVALID_ARGUMENT;
        }
    }

    public int lineAt(int article, int line) {
        if (!state.content.hasLine(article, line)) {
            return INVALID_ARGUMENT;
        }
        return currentLayout().flows[article].moduleOf(line);
    }

    public int sentence(int article, int sentence, int what) {
        if (!state.content.hasSentence(article, sentence) || !isWithin(what, 0, 1)) {
            return INVALID_ARGUMENT;
        }
        int line = state.content.articles[article].lines[sentence];
        return what == 0 ? line : currentLayout().flows[article].moduleOf(line);
    }

    public int quote(int quote, int what) {
        if (!state.content.hasQuote(quote)) {
            return INVALID_ARGUMENT;
        }
        Quote looked = state.content.quotes[quote];
        switch (what) {
            case 0:
                return looked.article;
            case 1:
                return looked.sentence;
            case 2:
                return looked.width;
            case 3:
                return looked.height;
            case 4:
                return looked.placed ? looked.page : NONE;
            case 5:
                return looked.placed ? looked.column : NONE;
            case 6:
                return looked.placed ? looked.row : NONE;
            case 7:
                return currentLayout().distanceFromSentence(state.content, looked);
            default:
                return INVALID_ARGUMENT;
        }
    }

    public int module(int module) {
        if (!isModule(module)) {
            return INVALID_ARGUMENT;
        }
        return currentLayout().takers[module];
    }

    public int page(int page, int what) {
        if (!isWithin(page, 0, PAGES - 1)) {
            return INVALID_ARGUMENT;
        }
        int from = page * PAGE_MODULES;
        int to = from + PAGE_MODULES;
        int byQuotes = currentLayout().takenBetween(from, to, QUOTE_TAKER);
        switch (what) {
            case 0:
                return state.content.balanceOf(page);
            case 1:
                return byQuotes;
            case 2:
                return currentLayout().takenBetween(from, to, LINE_TAKER) - byQuotes;
            default:
                return INVALID_ARGUMENT;
        }
    }

    // ---- reasons, and what would be, which changes nothing

    public int refusal(int quote, int page, int column, int row) {
        if (!state.content.hasQuote(quote) || !isPlace(page, column, row)) {
            return INVALID_ARGUMENT;
        }
        trial.prepare(state.content, quote);
        return trial.reasonAt(moduleAt(page, column, row));
    }

    public int bestPlace(int quote, int what) {
        if (!state.content.hasQuote(quote) || !isWithin(what, 0, 1)) {
            return INVALID_ARGUMENT;
        }
        trial.seekBest(state.content, quote);
        return what == 0 ? trial.bestModule : trial.bestUnrest;
    }

    public int troubled() {
        Content content = state.content;
        int troubled = 0;
        for (int quote = 0; quote < content.quoteCount; quote++) {
            Quote asked = content.quotes[quote];
            if (asked.placed) {
                trial.prepare(content, quote);
                if (trial.reasonAt(moduleAt(asked.page, asked.column, asked.row)) != NOT_REFUSED) {
                    troubled++;
                }
            }
        }
        return troubled;
    }

    public int roomFor(int article) {
        if (!state.content.hasArticle(article)) {
            return INVALID_ARGUMENT;
        }
        return trial.greatestLength(state.content, article);
    }

    // ---- helpers

    /** To be called by every action, once it is sure to succeed and before it changes anything. */
    private void beginAction() {
        history.keep(state);
        layoutIsOld = true;
    }

    private Layout currentLayout() {
        if (layoutIsOld) {
            layout.arrange(state.content);
            layoutIsOld = false;
        }
        return layout;
    }

    private static boolean isWithin(int value, int least, int greatest) {
        return value >= least && value <= greatest;
    }

    private static boolean isModule(int module) {
        return isWithin(module, 0, MODULES - 1);
    }

    private static boolean isPlace(int page, int column, int row) {
        return isWithin(page, 0, PAGES - 1) && isWithin(column, 0, COLUMNS - 1)
                && isWithin(row, 0, ROWS - 1);
    }

    private static int moduleAt(int page, int column, int row) {
        return page * PAGE_MODULES + column * ROWS + row;
    }

    private static int pageOf(int module) {
        return module / PAGE_MODULES;
    }

    private static int columnOf(int module) {
        return module % PAGE_MODULES / ROWS;
    }

    private static int rowOf(int module) {
        return module % ROWS;
    }

    /** The smallest difference of a number of one run and a number of another. */
    private static int differenceOfRuns(int first, int size, int otherFirst, int otherSize) {
        int last = first + size - 1;
        int otherLast = otherFirst + otherSize - 1;
        if (last < otherFirst) {
            return otherFirst - last;
        }
        return first > otherLast ? first - otherLast : 0;
    }

    /** An article: where it starts, how long it is, and the lines of its sentences. */
    private static final class Article {
        final int[] lines = new int[SENTENCE_LIMIT];
        int start;
        int length;
        int sentenceCount;

        void copyFrom(Article other) {
            start = other.start;
            length = other.length;
            sentenceCount = other.sentenceCount;
            System.arraycopy(other.lines, 0, lines, 0, SENTENCE_LIMIT);
        }

        int newSentence(int line) {
            if (sentenceCount >= SENTENCE_LIMIT) {
                return CAPACITY_EXCEEDED;
            }
            lines[sentenceCount] = line;
            sentenceCount++;
            return sentenceCount - 1;
        }

        int leastLength() {
            int least = 1;
            for (int i = 0; i < sentenceCount; i++) {
                least = Math.max(least, lines[i] + 1);
            }
            return least;
        }
    }

    /** A quote; its page, column and row mean something only while it is placed. */
    private static final class Quote {
        int article;
        int sentence;
        int width;
        int height;
        boolean placed;
        int page;
        int column;
        int row;

        void copyFrom(Quote other) {
            article = other.article;
            sentence = other.sentence;
            width = other.width;
            height = other.height;
            placed = other.placed;
            page = other.page;
            column = other.column;
            row = other.row;
        }

        void moveTo(int firstModule) {
            placed = true;
            page = pageOf(firstModule);
            column = columnOf(firstModule);
            row = rowOf(firstModule);
        }

        /** Its modules in the left half of the page less those in the right half. */
        int leaning() {
            int leftColumns = Math.max(0, Math.min(width, LEFT_COLUMNS - column));
            return (2 * leftColumns - width) * height;
        }

        int distanceFromModule(int module) {
            return Math.max(differenceOfRuns(column, width, columnOf(module), 1),
                    differenceOfRuns(row, height, rowOf(module), 1));
        }

        int distanceFromQuote(Quote other) {
            return Math.max(differenceOfRuns(column, width, other.column, other.width),
                    differenceOfRuns(row, height, other.row, other.height));
        }
    }

    /** Articles, sentences, quotes and rules: what a snapshot keeps. */
    private static final class Content {
        final Article[] articles = new Article[ARTICLE_LIMIT];
        final Quote[] quotes = new Quote[QUOTE_LIMIT];
        final int[] rules = new int[RULES];
        int articleCount;
        int quoteCount;

        Content() {
            for (int i = 0; i < ARTICLE_LIMIT; i++) {
                articles[i] = new Article();
            }
            for (int i = 0; i < QUOTE_LIMIT; i++) {
                quotes[i] = new Quote();
            }
            rules[LEAST] = 3;
            rules[GREATEST] = 12;
            rules[GAP] = 2;
        }

        void copyFrom(Content other) {
            articleCount = other.articleCount;
            for (int i = 0; i < articleCount; i++) {
                articles[i].copyFrom(other.articles[i]);
            }
            quoteCount = other.quoteCount;
            for (int i = 0; i < quoteCount; i++) {
                quotes[i].copyFrom(other.quotes[i]);
            }
            System.arraycopy(other.rules, 0, rules, 0, RULES);
        }

        boolean hasArticle(int article) {
            return isWithin(article, 0, articleCount - 1);
        }

        boolean hasLine(int article, int line) {
            return hasArticle(article) && isWithin(line, 0, articles[article].length - 1);
        }

        boolean hasSentence(int article, int sentence) {
            return hasArticle(article) && isWithin(sentence, 0, articles[article].sentenceCount - 1);
        }

        boolean hasQuote(int quote) {
            return isWithin(quote, 0, quoteCount - 1);
        }

        int newArticle(int start, int length) {
            if (articleCount >= ARTICLE_LIMIT) {
                return CAPACITY_EXCEEDED;
            }
            Article added = articles[articleCount];
            added.start = start;
            added.length = length;
            added.sentenceCount = 0;
            articleCount++;
            return articleCount - 1;
        }

        int newQuote(int article, int sentence, int width, int height) {
            if (quoteCount >= QUOTE_LIMIT) {
                return CAPACITY_EXCEEDED;
            }
            Quote added = quotes[quoteCount];
            added.article = article;
            added.sentence = sentence;
            added.width = width;
            added.height = height;
            added.placed = false;
            quoteCount++;
            return quoteCount - 1;
        }

        void dropArticle(int article) {
            if (!hasArticle(article)) {
                return;
            }
            for (int i = quoteCount - 1; i >= 0; i--) {
                if (quotes[i].article == article) {
                    dropQuote(i);
                } else if (quotes[i].article > article) {
                    quotes[i].article--;
                }
            }
            articleCount--;
            for (int i = article; i < articleCount; i++) {
                articles[i].copyFrom(articles[i + 1]);
            }
        }

        void dropQuote(int quote) {
            if (!hasQuote(quote)) {
                return;
            }
            quoteCount--;
            for (int i = quote; i < quoteCount; i++) {
                quotes[i].copyFrom(quotes[i + 1]);
            }
        }

        int placedQuotes() {
            int placed = 0;
            for (int i = 0; i < quoteCount; i++) {
                if (quotes[i].placed) {
                    placed++;
                }
            }
            return placed;
        }

        int balanceOf(int page) {
            int leaning = 0;
            for (int i = 0; i < quoteCount; i++) {
                if (quotes[i].placed && quotes[i].page == page) {
                    leaning += quotes[i].leaning();
                }
            }
            return Math.abs(leaning);
        }

        int unrest() {
            int unrest = 0;
            for (int page = 0; page < PAGES; page++) {
                unrest += balanceOf(page);
            }
            return unrest;
        }
    }

    /** What undo brings back: the content and the snapshots. */
    private static final class State {
        final Content content = new Content();
        final Content[] snapshots = new Content[SLOTS];
        final boolean[] snapshotTaken = new boolean[SLOTS];

        State() {
            for (int i = 0; i < SLOTS; i++) {
                snapshots[i] = new Content();
            }
        }

        void copyFrom(State other) {
            content.copyFrom(other.content);
            for (int i = 0; i < SLOTS; i++) {
                snapshotTaken[i] = other.snapshotTaken[i];
                if (snapshotTaken[i]) {
                    snapshots[i].copyFrom(other.snapshots[i]);
                }
            }
        }

        int snapshotCount() {
            int taken = 0;
            for (int i = 0; i < SLOTS; i++) {
                if (snapshotTaken[i]) {
                    taken++;
                }
            }
            return taken;
        }
    }

    /** The latest states, the oldest one first. */
    private static final class History {
        private final State[] states = new State[HISTORY_LIMIT];
        int size;

        History() {
            for (int i = 0; i < HISTORY_LIMIT; i++) {
                states[i] = new State();
            }
        }

        void keep(State state) {
            if (size >= HISTORY_LIMIT) {
                dropOldest();
            }
            states[size].copyFrom(state);
            size++;
        }

        private void dropOldest() {
            State oldest = states[0];
            for (int i = 1; i < HISTORY_LIMIT; i++) {
                states[i - 1] = states[i];
            }
            states[HISTORY_LIMIT - 1] = oldest;
            size = HISTORY_LIMIT - 1;
        }

        void giveBackTo(State state) {
            if (size > 0) {
                size--;
                state.copyFrom(states[size]);
            }
        }
    }

    /** The way of one article through the modules. */
    private static final class Flow {
        private final int[] modules = new int[LENGTH_LIMIT];
        private final int[] linesOnPage = new int[PAGES];
        int laid;
        int overset;
        int jumps;

        /** Takes modules for the article with this number, as they are free among the takers. */
        void pour(Article article, int number, int[] takers) {
            laid = 0;
            jumps = 0;
            Arrays.fill(linesOnPage, 0);
            int length = Math.min(article.length, LENGTH_LIMIT);
            int latestPage = NONE;
            for (int module = article.start; module < MODULES && laid < length; module++) {
                if (takers[module] == FREE) {
                    int page = pageOf(module);
                    if (laid > 0 && page != latestPage) {
                        takers[module] = NOTICE_TAKER + number;
                        jumps++;
                    } else {
                        takers[module] = LINE_TAKER + number;
                        modules[laid] = module;
                        linesOnPage[page]++;
                        laid++;
                    }
                    latestPage = page;
                }
            }
            overset = article.length - laid;
        }

        int moduleOf(int line) {
            return isWithin(line, 0, laid - 1) ? modules[line] : NONE;
        }

        boolean hasLineOn(int page) {
            return linesOnPage[page] > 0;
        }
    }

    /** What takes each module; the takers are numbered like the answers of module(). */
    private static final class Layout {
        final int[] takers = new int[MODULES];
        final Flow[] flows = new Flow[ARTICLE_LIMIT];
        private int articleCount;

        Layout() {
            for (int i = 0; i < ARTICLE_LIMIT; i++) {
                flows[i] = new Flow();
            }
        }

        void arrange(Content content) {
            Arrays.fill(takers, FREE);
            for (int i = 0; i < content.quoteCount; i++) {
                if (content.quotes[i].placed) {
                    cover(content.quotes[i], QUOTE_TAKER + i);
                }
            }
            articleCount = content.articleCount;
            for (int i = 0; i < articleCount; i++) {
                flows[i].pour(content.articles[i], i, takers);
            }
        }

        private void cover(Quote quote, int taker) {
            int lastColumn = Math.min(quote.column + quote.width, COLUMNS) - 1;
            int lastRow = Math.min(quote.row + quote.height, ROWS) - 1;
            for (int column = quote.column; column <= lastColumn; column++) {
                for (int row = quote.row; row <= lastRow; row++) {
                    takers[moduleAt(quote.page, column, row)] = taker;
                }
            }
        }

        /** The modules in this range whose taker has at least the number of this one. */
        int takenBetween(int from, int to, int leastTaker) {
            int taken = 0;
            for (int module = from; module < to; module++) {
                if (takers[module] >= leastTaker) {
                    taken++;
                }
            }
            return taken;
        }

        int oversetInAll() {
            int overset = 0;
            for (int i = 0; i < articleCount; i++) {
                overset += flows[i].overset;
            }
            return overset;
        }

        int jumpsInAll() {
            int jumps = 0;
            for (int i = 0; i < articleCount; i++) {
                jumps += flows[i].jumps;
            }
            return jumps;
        }

        /** Whether some article is overset by more lines than in another layout of the same articles. */
        boolean isMoreOverset(Layout other) {
            for (int i = 0; i < articleCount; i++) {
                if (flows[i].overset > other.flows[i].overset) {
                    return true;
                }
            }
            return false;
        }

        /** NONE if the quote is not placed, or its sentence does not lie on its page. */
        int distanceFromSentence(Content content, Quote quote) {
            if (!quote.placed || quote.article >= articleCount) {
                return NONE;
            }
            Article article = content.articles[quote.article];
            if (quote.sentence >= article.sentenceCount) {
                return NONE;
            }
            int line = article.lines[quote.sentence];
            int module = flows[quote.article].moduleOf(line);
            if (module == NONE || pageOf(module) != quote.page) {
                return NONE;
            }
            return quote.distanceFromModule(module);
        }
    }

    /** What would be: changes are tried on a plan, never on the content that is asked about. */
    private static final class Trial {
        private final Content plan = new Content();
        private final Layout before = new Layout();
        private final Layout after = new Layout();
        private int quote;
        int bestModule;
        int bestUnrest;

        /** Makes ready for asking about places of a quote, which counts as not placed. */
        void prepare(Content content, int quoteNumber) {
            plan.copyFrom(content);
            quote = quoteNumber;
            plan.quotes[quote].placed = false;
            before.arrange(plan);
        }

        /** The reason for which the place with this first module is refused. */
        int reasonAt(int firstModule) {
            Quote moved = plan.quotes[quote];
            moved.moveTo(firstModule);
            if (moved.column + moved.width > COLUMNS || moved.row + moved.height > ROWS) {
                return OUTSIDE;
            }
            if (isTooNearToAnother(moved)) {
                return TOO_NEAR_A_QUOTE;
            }
            after.arrange(plan);
            return reasonInLayout(moved);
        }

        private boolean isTooNearToAnother(Quote moved) {
            for (int i = 0; i < plan.quoteCount; i++) {
                Quote other = plan.quotes[i];
                if (i != quote && other.placed && other.page == moved.page
                        && moved.distanceFromQuote(other) < plan.rules[GAP]) {
                    return true;
                }
            }
            return false;
        }

        private int reasonInLayout(Quote moved) {
            if (after.isMoreOverset(before)) {
                return MORE_OVERSET;
            }
            if (moved.article >= plan.articleCount || !after.flows[moved.article].hasLineOn(moved.page)) {
                return NO_LINE_ON_PAGE;
            }
            if (isBadlyDistant(moved)) {
                return BAD_DISTANCE;
            }
            for (int i = 0; i < plan.quoteCount; i++) {
                if (i != quote && isBadlyDistant(plan.quotes[i])) {
                    return BAD_DISTANCE_OF_ANOTHER;
                }
            }
            return NOT_REFUSED;
        }

        private boolean isBadlyDistant(Quote asked) {
            int distance = after.distanceFromSentence(plan, asked);
            return distance != NONE && !isWithin(distance, plan.rules[LEAST], plan.rules[GREATEST]);
        }

        /** Finds the best place of a quote; its module and unrest are NONE if there is none. */
        void seekBest(Content content, int quoteNumber) {
            prepare(content, quoteNumber);
            bestModule = NONE;
            bestUnrest = NONE;
            for (int module = 0; module < MODULES; module++) {
                int unrest = unrestAt(module);
                // The unrest comes first: it is cheap, and spares the layouts of most places.
                if ((bestModule == NONE || unrest < bestUnrest) && reasonAt(module) == NOT_REFUSED) {
                    bestModule = module;
                    bestUnrest = unrest;
                }
            }
        }

        private int unrestAt(int firstModule) {
            plan.quotes[quote].moveTo(firstModule);
            return plan.unrest();
        }

        int greatestLength(Content content, int article) {
            plan.copyFrom(content);
            before.arrange(plan);
            Article stretched = plan.articles[article];
            int fitting = stretched.length;
            int tooLong = LENGTH_LIMIT + 1;
            // A longer article never leaves more room to any other, so the fitting lengths have no
            // gap between them, and halving finds the greatest one.
            for (int i = 0; i < LENGTH_LIMIT && tooLong - fitting > 1; i++) {
                int middle = (fitting + tooLong) / 2;
                stretched.length = middle;
                after.arrange(plan);
                if (after.isMoreOverset(before)) {
                    tooLong = middle;
                } else {
                    fitting = middle;
                }
            }
            return fitting;
        }
    }

    /** The characters that were appended. */
    private static final class Text {
        final int[] signs = new int[TEXT_LIMIT];
        int length;
    }

    /** Reads the items of the text into a draft, from left to right up to the first error. */
    private static final class Reader {
        private static final int NO_ERROR = -1;
        private static final int END = 0;
        private static final int TOO_GREAT = 1000;

        final Text text = new Text();
        final Content draft = new Content();
        int items;
        int errorPosition = NO_ERROR;
        private int position;

        boolean hasFailed() {
            return errorPosition != NO_ERROR;
        }

        void read(Content content) {
            draft.copyFrom(content);
            items = 0;
            position = 0;
            errorPosition = NO_ERROR;
            for (int i = 0; i < TEXT_LIMIT && !hasFailed() && nextSign() != END; i++) {
                readItem();
                items++;
            }
        }

        private void readItem() {
            int sign = nextSign();
            if (sign == 'a' && draft.articleCount < ARTICLE_LIMIT) {
                position++;
                readArticle();
            } else if (sign == 'q' && draft.quoteCount < QUOTE_LIMIT) {
                position++;
                readQuote();
            } else {
                failAt(position);
            }
            expect(';');
        }

        private void readArticle() {
            int start = readNumber(0, MODULES - 1);
            int length = readNumber(1, LENGTH_LIMIT);
            if (hasFailed()) {
                return;
            }
            int number = draft.newArticle(start, length);
            if (nextSign() == ':' && draft.hasArticle(number)) {
                position++;
                readLines(draft.articles[number]);
            }
        }

        private void readLines(Article article) {
            for (int i = 0; i <= SENTENCE_LIMIT && !hasFailed(); i++) {
                nextSign();
                int first = position;
                int line = readNumber(0, article.length - 1);
                if (hasFailed()) {
                    return;
                }
                if (article.sentenceCount >= SENTENCE_LIMIT) {
                    failAt(first);
                    return;
                }
                article.newSentence(line);
                if (nextSign() != ',') {
                    return;
                }
                position++;
            }
        }

        private void readQuote() {
            int article = readNumber(0, draft.articleCount - 1);
            if (hasFailed() || !draft.hasArticle(article)) {
                return;
            }
            int sentence = readNumber(0, draft.articles[article].sentenceCount - 1);
            int width = readNumber(1, WIDTH_LIMIT);
            expect('x');
            int height = readNumber(1, HEIGHT_LIMIT);
            if (!hasFailed()) {
                draft.newQuote(article, sentence, width, height);
            }
        }

        /** Skips spaces; answers the sign behind them, or END if the text is over. */
        private int nextSign() {
            while (position < text.length && text.signs[position] == ' ') {
                position++;
            }
            return position < text.length ? text.signs[position] : END;
        }

        private void expect(int sign) {
            if (hasFailed()) {
                return;
            }
            if (nextSign() == sign) {
                position++;
            } else {
                failAt(position);
            }
        }

        /** Reads a number of this range; what it answers means nothing if the reading has failed. */
        private int readNumber(int least, int greatest) {
            if (hasFailed()) {
                return least;
            }
            nextSign();
            int first = position;
            int value = 0;
            while (position < text.length && isDigit(text.signs[position])) {
                value = Math.min(value * 10 + text.signs[position] - '0', TOO_GREAT);
                position++;
            }
            int digits = position - first;
            if (digits == 0 || digits > 1 && text.signs[first] == '0' || !isWithin(value, least, greatest)) {
                failAt(first);
            }
            return value;
        }

        private static boolean isDigit(int sign) {
            return isWithin(sign, '0', '9');
        }

        private void failAt(int offset) {
            if (!hasFailed()) {
                errorPosition = offset;
            }
        }
    }
}
