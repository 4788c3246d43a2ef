import java.util.Arrays;

/** Prisoners who plan in the margins of one book that goes round by turns; the document tells each call's promise. */
public final class MarginPlan {
    public static final int NONE = -1;

    private static final int FINE = 0;
    private static final int NO_SUCH_TRAY = 1;
    private static final int NO_SUCH_THING = 2;
    private static final int TRAY_MISSING = 3;
    private static final int NO_PLACE = 4;
    private static final int BAD_NUMBER = 5;
    private static final int BELOW_ZERO = 6;
    private static final int ONE_TOO_MANY = 7;
    private static final int NOT_THERE = 8;
    private static final int CANNOT_BE = 9;
    private static final int FAULTY = 10;
    private static final int UNLIKE_SORTS = 11;

    private static final int FAULT_TOKEN = 1;
    private static final int FAULT_STAND = 2;
    private static final int FAULT_NAME = 3;
    private static final int FAULT_NUMBER = 4;
    private static final int FAULT_TWICE = 5;
    private static final int FAULT_TOO_MANY = 6;
    private static final int FAULT_TOO_DEEP = 7;

    private static final int TRAYS = 4;
    private static final int SORTS = 4;
    private static final int LONGEST_TRAY = 60;
    private static final int TAPE_ROOM = 900;
    private static final int LONGEST_ROUNDS = 300;
    private static final int MOST_CELLS = 8;
    private static final int MOST_SECRETS = 6;
    private static final int MOST_PAGES = 6;
    private static final int MOST_PRICKS = 20;
    private static final int USUAL_PRICKS = 5;
    private static final int MOST_LETTERS = 20;
    private static final int MOST_ROOM = 60;
    private static final int SIXTEEN = 16;
    private static final int LONGEST_NAME = 8;
    private static final int MOST_DIGITS = 4;
    private static final int MOST_AT_ONCE = 99;
    private static final int LAST_TURN = 9999;
    private static final int FAR_AHEAD = 999;
    private static final int BEST_CELLS = 6;
    private static final int BEST_ORDERS = 720;
    private static final int MOST_DAYS = 2;
    private static final int MOST_MARKS = 3;
    private static final int MOST_STEPS = 30;
    private static final int MOST_DEPTH = 3;
    private static final int STEPS_LIVED = 300;
    private static final int LAST_SEED = 9999;
    private static final int MOST_SEEDS = 20;
    private static final int LONGEST_WORD = 10;
    private static final int LAST_LETTER = 26;

    // The numbers of the WORDS that are no NAMES, as they stand in KEYS.
    private static final int CELL = 0;
    private static final int PRICKS = 1;
    private static final int BLIND = 2;
    private static final int RUBS = 3;
    private static final int SECRET = 4;
    private static final int LETTERS = 5;
    private static final int PAGE = 6;
    private static final int ROOM = 7;
    private static final int KNOWS = 8;
    private static final int ORDER = 9;
    private static final int READ = 10;
    private static final int ODDS = 11;
    private static final int TURN = 12;
    private static final int ILL = 13;
    private static final int MOVE = 14;
    private static final int RUB = 15;
    private static final int DAMP = 16;
    private static final int WARDER = 17;
    private static final int WHEN = 18;
    private static final int FULL = 19;
    private static final int ALL = 20;
    private static final int LOOP = 21;
    private static final int END = 22;
    private static final int STOP = 23;
    private static final int KEY_COUNT = 24;
    private static final String KEYS = "cell pricks blind rubs secret letters page room knows order read odds turn ill move rub damp warder when full all loop end stop ";

    private int status = FINE;
    private final Trays trays = new Trays();
    private final Words words = new Words();
    private final Odds odds = new Odds();
    private final Tokens tokens = new Tokens();
    private final BookReader bookReader = new BookReader();
    private final RoundsReader roundsReader = new RoundsReader();
    private final Book book = new Book();
    private final Book draft = new Book();
    private final Book[] marks = new Book[MOST_MARKS];
    private int marked = 0;
    private final Ahead ahead = new Ahead();
    private final Life life = new Life();
    private final int[] lifeTold = new int[Life.TOLD];
    private boolean hasLived = false;

    public MarginPlan() {
        for (int i = 0; i < MOST_MARKS; i++) {
            marks[i] = new Book();
        }
    }

    public int status() {
        return status;
    }

    public long top() {
        return odds.above;
    }

    public long bottom() {
        return odds.below;
    }

    private int refuse(int found) {
        status = found;
        return NONE;
    }

    private boolean deny(int found) {
        status = found;
        return false;
    }

    private int answer(int value) {
        status = FINE;
        return value;
    }

    private boolean agree() {
        status = FINE;
        return true;
    }

    /** An answer that may be NONE because there is none. */
    private int answerIfAny(int value) {
        return value == NONE ? refuse(NOT_THERE) : answer(value);
    }

    // ---- TRAYS

    public boolean tray(int tray, int sort, int many) {
        if (!trays.isKnown(tray) || sort < 0 || sort >= SORTS) {
            return deny(NO_SUCH_TRAY);
        }
        if (many > LONGEST_TRAY) {
            return deny(BAD_NUMBER);
        }
        if (many < 0) {
            return deny(BELOW_ZERO);
        }
        trays.make(tray, sort, many);
        return agree();
    }

    public boolean write(int tray, int place, long v) {
        int found = trays.placeStatus(tray, place);
        if (found != FINE) {
            return deny(found);
        }
        trays.put(tray, place, v);
        return agree();
    }

    public long read(int tray, int place) {
        int found = trays.placeStatus(tray, place);
        if (found != FINE) {
            return refuse(found);
        }
        status = FINE;
        return trays.rows[tray][place];
    }

    public boolean pour(int tray, int i, int to, int j, int many) {
        int found = trays.pourStatus(tray, i, to, j, many);
        if (found != FINE) {
            return deny(found);
        }
        System.arraycopy(trays.rows[tray], i, trays.rows[to], j, many);
        return agree();
    }

    // ---- texts

    public int feed(int a, int b, int c, int d, int e) {
        if (!tokens.hasRoomFor(20)) {
            return NONE;
        }
        tokens.append(a);
        tokens.append(b);
        tokens.append(c);
        tokens.append(d);
        tokens.append(e);
        return tokens.filled;
    }

    public int book(int n) {
        if (!tokens.begin(n)) {
            return refuse(BAD_NUMBER);
        }
        boolean taken = bookReader.take(tokens, draft);
        tokens.empty();
        if (!taken) {
            return refuse(FAULTY);
        }
        book.copyFrom(draft);
        return answer(book.cells);
    }

    public int rounds(int n) {
        if (n > LONGEST_ROUNDS || !tokens.begin(n)) {
            return refuse(BAD_NUMBER);
        }
        boolean taken = roundsReader.take(tokens, book, draft.rounds);
        tokens.empty();
        if (!taken) {
            return refuse(FAULTY);
        }
        book.rounds.copyFrom(draft.rounds);
        return answer(book.rounds.steps);
    }

    public int fault(int what) {
        if (what == 0) {
            return tokens.faultKind;
        }
        return what == 1 ? tokens.faultPlace : NONE;
    }

    public int many(int what) {
        State now = book.now;
        switch (what) {
            case 0: return answer(book.cells);
            case 1: return answer(book.secrets);
            case 2: return answer(book.pages);
            case 3: return answer(now.inOrder);
            case 4: return answer(now.turns);
            case 5: return answer(now.usedInAll());
            case 6: return answer(now.madeInAll);
            case 7: return answer(now.ill);
            case 8: return answer(now.shut);
            default: return refuse(BAD_NUMBER);
        }
    }

    public int cell(int cell, int what) {
        if (!book.hasCell(cell)) {
            return refuse(NO_SUCH_THING);
        }
        switch (what) {
            case 0: return answer(book.speed[cell]);
            case 1: return answer(State.has(book.blind, cell) ? 1 : 0);
            case 2: return answer(State.has(book.rubs, cell) ? 1 : 0);
            case 3: return answer(book.now.knows[cell]);
            case 4: return answerIfAny(book.now.placeOf(cell));
            case 5: return answer(book.now.made[cell]);
            default: return refuse(BAD_NUMBER);
        }
    }

    public int secret(int secret) {
        return book.hasSecret(secret) ? answer(book.letters[secret]) : refuse(NO_SUCH_THING);
    }

    public int page(int page, int what) {
        if (!book.hasPage(page)) {
            return refuse(NO_SUCH_THING);
        }
        switch (what) {
            case 0: return answer(book.room[page]);
            case 1: return answer(book.now.sixteenths[page]);
            case 2: return answer(book.now.freeOf(book, page));
            case 3: return answer(book.now.stands[page]);
            default: return refuse(BAD_NUMBER);
        }
    }

    public int pricks(int page, int secret) {
        if (!book.hasPage(page) || !book.hasSecret(secret)) {
            return refuse(NO_SUCH_THING);
        }
        return answer(book.now.dots[page * MOST_SECRETS + secret]);
    }

    public int orderAt(int k) {
        if (k < 0 || k >= book.now.inOrder) {
            return refuse(NOT_THERE);
        }
        return answer(book.now.order[k]);
    }

    public int next() {
        int place = book.now.nextPlace();
        return place == NONE ? refuse(NOT_THERE) : answer(book.now.order[place]);
    }

    public int knowers(int secret) {
        return book.hasSecret(secret) ? answer(book.now.cellsKnowing(secret)) : refuse(NO_SUCH_THING);
    }

    public int copyPage(int page, int tray) {
        if (!trays.isKnown(tray)) {
            return refuse(NO_SUCH_TRAY);
        }
        if (!book.hasPage(page)) {
            return refuse(NO_SUCH_THING);
        }
        if (trays.isMissing(tray)) {
            return refuse(TRAY_MISSING);
        }
        if (trays.lengths[tray] < book.secrets) {
            return refuse(NO_PLACE);
        }
        for (int secret = 0; secret < book.secrets; secret++) {
            trays.put(tray, secret, book.now.dots[page * MOST_SECRETS + secret]);
        }
        return answer(book.secrets);
    }

    // ---- what is done

    public int turn(int turns) {
        if (turns < 1 || turns > MOST_AT_ONCE) {
            return refuse(BAD_NUMBER);
        }
        if (book.now.turns + turns > LAST_TURN) {
            return refuse(ONE_TOO_MANY);
        }
        book.now.passMany(book, turns);
        return answer(book.now.turns);
    }

    public int rub(int page) {
        if (!book.hasPage(page)) {
            return refuse(NO_SUCH_THING);
        }
        int gone = book.now.erasePage(page);
        return gone == 0 ? refuse(NOT_THERE) : answer(gone);
    }

    public boolean damp(int page, boolean shut) {
        if (!book.hasPage(page)) {
            return deny(NO_SUCH_THING);
        }
        if (State.has(book.now.shut, page) == shut) {
            return deny(CANNOT_BE);
        }
        book.now.shut ^= 1 << page;
        return agree();
    }

    public boolean ill(int cell, boolean is) {
        if (!book.hasCell(cell)) {
            return deny(NO_SUCH_THING);
        }
        if (State.has(book.now.ill, cell) == is) {
            return deny(CANNOT_BE);
        }
        book.now.ill ^= 1 << cell;
        return agree();
    }

    public boolean move(int cell, int other) {
        if (!book.hasCell(cell) || !book.hasCell(other)) {
            return deny(NO_SUCH_THING);
        }
        return book.now.swapPlaces(cell, other) ? agree() : deny(CANNOT_BE);
    }

    public boolean tell(int cell, int secret) {
        if (!book.hasCell(cell) || !book.hasSecret(secret)) {
            return deny(NO_SUCH_THING);
        }
        if (State.has(book.now.knows[cell], secret)) {
            return deny(CANNOT_BE);
        }
        book.now.knows[cell] |= 1 << secret;
        return agree();
    }

    public boolean watch(int page, int odds) {
        if (!book.hasPage(page)) {
            return deny(NO_SUCH_THING);
        }
        if (odds < 0 || odds > SIXTEEN) {
            return deny(BAD_NUMBER);
        }
        book.now.sixteenths[page] = odds;
        return agree();
    }

    // ---- who KNOWS what

    public int when(int cell, int secret) {
        if (!book.hasCell(cell) || !book.hasSecret(secret)) {
            return refuse(NO_SUCH_THING);
        }
        return answerIfAny(ahead.turnsTill(book, 1 << cell, 1 << secret));
    }

    public int heard(int secret) {
        if (!book.hasSecret(secret)) {
            return refuse(NO_SUCH_THING);
        }
        return answerIfAny(ahead.turnsTill(book, book.seeing(), 1 << secret));
    }

    public int all() {
        return answerIfAny(ahead.turnsTill(book, book.seeing(), book.allSecrets()));
    }

    public int later(int cell, int turns) {
        if (!book.hasCell(cell)) {
            return refuse(NO_SUCH_THING);
        }
        if (turns < 0 || turns > FAR_AHEAD) {
            return refuse(BAD_NUMBER);
        }
        return answer(ahead.behind(book, turns).knows[cell]);
    }

    public int roomIn(int page, int turns) {
        if (!book.hasPage(page)) {
            return refuse(NO_SUCH_THING);
        }
        if (turns < 0 || turns > FAR_AHEAD) {
            return refuse(BAD_NUMBER);
        }
        return answer(ahead.behind(book, turns).freeOf(book, page));
    }

    public int never() {
        int set = 0;
        for (int secret = 0; secret < book.secrets; secret++) {
            if (ahead.turnsTill(book, book.seeing(), 1 << secret) == NONE) {
                set |= 1 << secret;
            }
        }
        return answer(set);
    }

    public int firstHeard() {
        int first = NONE;
        int soonest = FAR_AHEAD + 1;
        for (int secret = 0; secret < book.secrets; secret++) {
            int turns = ahead.turnsTill(book, book.seeing(), 1 << secret);
            if (turns != NONE && turns < soonest) {
                soonest = turns;
                first = secret;
            }
        }
        return answerIfAny(first);
    }

    public int bestOrder() {
        if (book.now.inOrder > BEST_CELLS) {
            return refuse(CANNOT_BE);
        }
        return answerIfAny(ahead.seekBest(book));
    }

    public int bestAt(int k) {
        if (k < 0 || k >= ahead.bestMany) {
            return refuse(NOT_THERE);
        }
        return answer(ahead.best[k]);
    }

    // ---- PAGES, the WARDER

    public int kept() {
        int found = NONE;
        int most = NONE;
        for (int page = 0; page < book.pages; page++) {
            int free = book.now.freeOf(book, page);
            if (!State.has(book.now.shut, page) && free > most) {
                most = free;
                found = page;
            }
        }
        return answerIfAny(found);
    }

    public int fits() {
        int set = odds.fewestPages(book);
        return set == NONE ? refuse(NOT_THERE) : answer(Integer.bitCount(set));
    }

    public int fitSet() {
        return answerIfAny(odds.fewestPages(book));
    }

    public boolean caught() {
        odds.tellRisk(book, 1);
        return agree();
    }

    public boolean risk(int days) {
        if (days < 0 || days > MOST_DAYS) {
            return deny(BAD_NUMBER);
        }
        odds.tellRisk(book, days);
        return agree();
    }

    public int hide(int secret) {
        if (!book.hasSecret(secret)) {
            return refuse(NO_SUCH_THING);
        }
        int found = NONE;
        int fewest = SIXTEEN + 1;
        for (int page = 0; page < book.pages; page++) {
            boolean fit = !State.has(book.now.shut, page) && book.now.freeOf(book, page) >= book.letters[secret];
            if (fit && book.now.sixteenths[page] < fewest) {
                fewest = book.now.sixteenths[page];
                found = page;
            }
        }
        return answerIfAny(found);
    }

    public boolean game() {
        return odds.tellGame(book) ? agree() : deny(NOT_THERE);
    }

    public boolean mix(int page) {
        if (!book.hasPage(page)) {
            return deny(NO_SUCH_THING);
        }
        if (State.has(book.now.shut, page)) {
            return deny(CANNOT_BE);
        }
        odds.tellMix(book, page);
        return agree();
    }

    // ---- WORDS

    public long pricked(int word, int n, int row, int m) {
        int found = words.load(trays, word, n, row, m);
        if (found != FINE) {
            return refuse(found);
        }
        status = FINE;
        return words.countWays();
    }

    public int prickAt(int word, int n, int row, int m, int k) {
        int found = words.load(trays, word, n, row, m);
        if (found != FINE) {
            return refuse(found);
        }
        if (k < 0 || k >= n) {
            return refuse(BAD_NUMBER);
        }
        return words.follow(0) == NONE ? refuse(NOT_THERE) : answer(words.places[k]);
    }

    public int shortest(int word, int n, int row, int m) {
        int found = words.load(trays, word, n, row, m);
        if (found != FINE) {
            return refuse(found);
        }
        return answerIfAny(words.leastLength());
    }

    // ---- ROUNDS

    public int live(int seed) {
        if (seed < 0 || seed > LAST_SEED) {
            return refuse(BAD_NUMBER);
        }
        if (!book.rounds.present) {
            return refuse(NOT_THERE);
        }
        life.run(book, book.now, seed);
        life.tellTo(lifeTold);
        hasLived = true;
        return answer(life.steps);
    }

    public int lived(int what) {
        if (what < 0 || what >= Life.TOLD) {
            return refuse(BAD_NUMBER);
        }
        return hasLived ? answer(lifeTold[what]) : refuse(NOT_THERE);
    }

    public boolean mean(int cell, int seed, int many) {
        if (!book.hasCell(cell)) {
            return deny(NO_SUCH_THING);
        }
        boolean inBounds = seed >= 0 && seed <= LAST_SEED && many >= 1 && many <= MOST_SEEDS;
        if (!inBounds || seed + many - 1 > LAST_SEED) {
            return deny(BAD_NUMBER);
        }
        if (!book.rounds.present) {
            return deny(NOT_THERE);
        }
        int sum = 0;
        for (int i = 0; i < many; i++) {
            State probe = life.probeOf(book);
            life.run(book, probe, seed + i);
            sum += Integer.bitCount(probe.knows[cell]);
        }
        odds.keep(sum, many);
        return agree();
    }

    // ---- MARKS

    public int mark() {
        if (marked >= MOST_MARKS) {
            return refuse(ONE_TOO_MANY);
        }
        marks[marked].copyFrom(book);
        marked++;
        return answer(marked);
    }

    public int back() {
        if (marked <= 0) {
            return refuse(NOT_THERE);
        }
        marked--;
        book.copyFrom(marks[marked]);
        return answer(marked);
    }

    /** The TRAYS: all rows have the longest length, so that none is made anew. */
    private static final class Trays {
        final long[][] rows = new long[TRAYS][LONGEST_TRAY];
        final int[] sorts = new int[TRAYS];
        final int[] lengths = new int[TRAYS];

        Trays() {
            Arrays.fill(lengths, NONE);
        }

        boolean isKnown(int tray) {
            return tray >= 0 && tray < TRAYS;
        }

        boolean isMissing(int tray) {
            return lengths[tray] == NONE;
        }

        void make(int tray, int sort, int many) {
            Arrays.fill(rows[tray], 0L);
            sorts[tray] = sort;
            lengths[tray] = many;
        }

        void put(int tray, int place, long v) {
            rows[tray][place] = cut(sorts[tray], v);
        }

        private static long cut(int sort, long v) {
            switch (sort) {
                case 0: return (byte) v;
                case 1: return (short) v;
                case 2: return (int) v;
                default: return v;
            }
        }

        int placeStatus(int tray, int place) {
            if (!isKnown(tray)) {
                return NO_SUCH_TRAY;
            }
            if (isMissing(tray)) {
                return TRAY_MISSING;
            }
            return place >= 0 && place < lengths[tray] ? FINE : NO_PLACE;
        }

        int pairStatus(int tray, int other) {
            if (!isKnown(tray) || !isKnown(other)) {
                return NO_SUCH_TRAY;
            }
            return isMissing(tray) || isMissing(other) ? TRAY_MISSING : FINE;
        }

        int pourStatus(int tray, int i, int to, int j, int many) {
            int found = pairStatus(tray, to);
            if (found != FINE) {
                return found;
            }
            if (sorts[tray] != sorts[to]) {
                return UNLIKE_SORTS;
            }
            if (many < 0) {
                return BELOW_ZERO;
            }
            return hasRun(tray, i, many) && hasRun(to, j, many) ? FINE : NO_PLACE;
        }

        private boolean hasRun(int tray, int from, int many) {
            return from >= 0 && from <= lengths[tray] && many <= lengths[tray] - from;
        }
    }

    /** A word's letters and a row's, and how the one is pricked in the other. */
    private static final class Words {
        private final int[] word = new int[LONGEST_WORD];
        private final int[] row = new int[LONGEST_TRAY];
        private int wordLength = 0;
        private int rowLength = 0;
        private final long[] ways = new long[LONGEST_WORD + 1];
        final int[] places = new int[LONGEST_WORD];

        /** Takes both from the TRAYS; what it tells is a STATUS. */
        int load(Trays trays, int wordTray, int n, int rowTray, int m) {
            int found = trays.pairStatus(wordTray, rowTray);
            if (found != FINE) {
                return found;
            }
            if (n > trays.lengths[wordTray] || m > trays.lengths[rowTray]) {
                return NO_PLACE;
            }
            if (n < 1 || n > LONGEST_WORD || m < 1 || m > LONGEST_TRAY) {
                return BAD_NUMBER;
            }
            wordLength = n;
            rowLength = m;
            boolean taken = takeLetters(trays.rows[wordTray], word, n) && takeLetters(trays.rows[rowTray], row, m);
            return taken ? FINE : BAD_NUMBER;
        }

        private static boolean takeLetters(long[] from, int[] to, int many) {
            for (int i = 0; i < many; i++) {
                if (from[i] < 1 || from[i] > LAST_LETTER) {
                    return false;
                }
                to[i] = (int) from[i];
            }
            return true;
        }

        long countWays() {
            Arrays.fill(ways, 0L);
            ways[0] = 1;
            for (int i = 0; i < rowLength; i++) {
                // From the end on, or one letter of the row would serve twice.
                for (int k = wordLength - 1; k >= 0; k--) {
                    if (word[k] == row[i]) {
                        ways[k + 1] += ways[k];
                    }
                }
            }
            return ways[wordLength];
        }

        /** The first way from a place on comes to `places`: its last place, or NONE. */
        int follow(int from) {
            int done = 0;
            int last = NONE;
            for (int i = from; i < rowLength && done < wordLength; i++) {
                if (row[i] == word[done]) {
                    places[done] = i;
                    last = i;
                    done++;
                }
            }
            return done == wordLength ? last : NONE;
        }

        int leastLength() {
            int least = NONE;
            for (int from = 0; from < rowLength; from++) {
                int last = row[from] == word[0] ? follow(from) : NONE;
                if (last != NONE && (least == NONE || last - from + 1 < least)) {
                    least = last - from + 1;
                }
            }
            return least;
        }
    }

    /** The FRACTION told latest, what the WARDER finds, and which PAGES do. */
    private static final class Odds {
        // What each of 1 to 16 divides, so that sums of their parts are whole.
        private static final long WHOLE = 720720;
        private static final int SUBSETS = 1 << MOST_SECRETS;

        long above = 0;
        long below = 1;
        // By sets of PAGES: which sets of SECRETS have ROOM there, one bit for each.
        private final long[] holds = new long[1 << MOST_PAGES];
        private final int[] lettersOf = new int[SUBSETS];

        void keep(long top, long bottom) {
            long divisor = commonDivisor(bottom, top);
            if (divisor > 0) {
                above = top / divisor;
                below = bottom / divisor;
            }
        }

        private static long commonDivisor(long one, long other) {
            long a = one;
            long b = other;
            for (int i = 0; i < 200 && b != 0; i++) {
                long rest = a % b;
                a = b;
                b = rest;
            }
            return a;
        }

        void tellRisk(Book book, int days) {
            long safe = 1;
            long whole = 1;
            for (int day = 0; day < days; day++) {
                for (int page = 0; page < book.pages; page++) {
                    if (!State.has(book.now.shut, page) && book.now.used[page] > 0) {
                        safe *= SIXTEEN - book.now.sixteenths[page];
                        whole *= SIXTEEN;
                    }
                }
            }
            keep(whole - safe, whole);
        }

        /** GAME; false if no PAGE is open. */
        boolean tellGame(Book book) {
            if (firstSafe(book) != NONE) {
                keep(0, 1);
                return true;
            }
            long parts = sumOfParts(book);
            if (parts == 0) {
                return false;
            }
            keep(WHOLE, SIXTEEN * parts);
            return true;
        }

        void tellMix(Book book, int page) {
            int safe = firstSafe(book);
            if (safe != NONE) {
                keep(page == safe ? 1 : 0, 1);
            } else {
                keep(part(book, page), sumOfParts(book));
            }
        }

        /** The first open PAGE that is never read. */
        private static int firstSafe(Book book) {
            for (int page = 0; page < book.pages; page++) {
                if (!State.has(book.now.shut, page) && book.now.sixteenths[page] == 0) {
                    return page;
                }
            }
            return NONE;
        }

        // All products are alike at the best ODDS, so a PAGE's part is as one by its sixteenths.
        private static long part(Book book, int page) {
            int sixteenths = book.now.sixteenths[page];
            return sixteenths == 0 ? 0 : WHOLE / sixteenths;
        }

        private static long sumOfParts(Book book) {
            long sum = 0;
            for (int page = 0; page < book.pages; page++) {
                if (!State.has(book.now.shut, page)) {
                    sum += part(book, page);
                }
            }
            return sum;
        }

        /** The set of FITS, or NONE. */
        int fewestPages(Book book) {
            sumLetters(book);
            int wanted = book.allSecrets();
            int found = NONE;
            int fewest = MOST_PAGES + 1;
            holds[0] = 1;
            for (int set = 0; set < 1 << book.pages; set++) {
                if (set > 0) {
                    fillHolds(book, set);
                }
                if ((holds[set] >>> wanted & 1) != 0 && Integer.bitCount(set) < fewest) {
                    fewest = Integer.bitCount(set);
                    found = set;
                }
            }
            return found;
        }

        private void sumLetters(Book book) {
            for (int subset = 0; subset < SUBSETS; subset++) {
                int sum = 0;
                for (int secret = 0; secret < book.secrets; secret++) {
                    sum += State.has(subset, secret) ? book.letters[secret] : 0;
                }
                lettersOf[subset] = sum;
            }
        }

        /** What a set of PAGES holds, from what it holds without its first one. */
        private void fillHolds(Book book, int set) {
            int first = 0;
            while (first < MOST_PAGES - 1 && !State.has(set, first)) {
                first++;
            }
            int room = book.room[first];
            int wanted = book.allSecrets();
            long without = holds[set & ~(1 << first)];
            long found = 0;
            for (int more = 0; more <= wanted; more++) {
                if (lettersOf[more] <= room) {
                    found |= joined(without, more, wanted);
                }
            }
            holds[set] = found;
        }

        /** The sets of SECRETS that come of those in `without`, each with `more` of others. */
        private static long joined(long without, int more, int wanted) {
            long found = 0;
            for (int subset = 0; subset <= wanted; subset++) {
                if ((subset & more) == 0 && (without >>> subset & 1) != 0) {
                    found |= 1L << (subset | more);
                }
            }
            return found;
        }
    }

    /** The tape, the TOKEN at hand of a TEXT on it, and the FAULT of the latest one. */
    private static final class Tokens {
        static final int OVER = 0;
        static final int WORD = 1;
        static final int NUMBER = 2;
        static final int SIGN = 3;
        static final int BAD = 4;

        private final byte[] tape = new byte[TAPE_ROOM];
        int filled = 0;
        private int end = 0;
        private int at = 0;
        int kind = OVER;
        int place = 0;
        private long word = NONE;
        int key = NONE;
        private int number = 0;
        int faultKind = NONE;
        int faultPlace = NONE;
        private final long[] keys = new long[KEY_COUNT];

        Tokens() {
            int k = 0;
            long packed = 0;
            for (int i = 0; i < KEYS.length() && k < KEY_COUNT; i++) {
                char c = KEYS.charAt(i);
                if (c == ' ') {
                    keys[k] = packed;
                    packed = 0;
                    k++;
                } else {
                    packed = withLetter(packed, c);
                }
            }
        }

        private static long withLetter(long packed, int letter) {
            return packed * 32 + (letter - 'a' + 1);
        }

        boolean hasRoomFor(int many) {
            return filled + many <= TAPE_ROOM;
        }

        void append(int four) {
            for (int shift = 24; shift >= 0 && filled < TAPE_ROOM; shift -= 8) {
                tape[filled] = (byte) (four >> shift);
                filled++;
            }
        }

        void empty() {
            filled = 0;
        }

        /** Begins a TEXT of so many bytes; false if the tape has fewer. */
        boolean begin(int many) {
            if (many < 0 || many > filled) {
                return false;
            }
            end = many;
            at = 0;
            faultKind = 0;
            faultPlace = NONE;
            forward();
            return true;
        }

        void forward() {
            while (at < end && (tape[at] == 10 || tape[at] == 32)) {
                at++;
            }
            place = at;
            key = NONE;
            if (at >= end) {
                kind = OVER;
            } else if (isLetter(tape[at])) {
                takeWord();
            } else if (isDigit(tape[at])) {
                takeNumber();
            } else {
                kind = isSign(tape[at]) ? SIGN : BAD;
                at++;
            }
        }

        private static boolean isLetter(int c) {
            return c >= 'a' && c <= 'z';
        }

        private static boolean isDigit(int c) {
            return c >= '0' && c <= '9';
        }

        private static boolean isSign(int c) {
            return c >= ';' && c <= '>';
        }

        private void takeWord() {
            long packed = 0;
            while (at < end && isLetter(tape[at])) {
                packed = withLetter(packed, tape[at]);
                at++;
            }
            kind = WORD;
            word = at - place > LONGEST_NAME ? NONE : packed;
            for (int k = 0; k < KEY_COUNT; k++) {
                if (keys[k] == word) {
                    key = k;
                }
            }
        }

        private void takeNumber() {
            number = 0;
            while (at < end && isDigit(tape[at])) {
                number = number * 10 + (tape[at] - '0');
                at++;
            }
            kind = at - place > MOST_DIGITS ? BAD : NUMBER;
        }

        /** A FAULT of the TOKEN at hand; that it is none at all comes ahead of every other. */
        boolean fail(int fault) {
            return failAt(kind == BAD ? FAULT_TOKEN : fault, place);
        }

        boolean failAt(int fault, int where) {
            faultKind = fault;
            faultPlace = where;
            return false;
        }

        /** Whether this WORD stands here; if so it is passed. */
        boolean skips(int wanted) {
            boolean stands = key == wanted;
            if (stands) {
                forward();
            }
            return stands;
        }

        boolean atSemicolon() {
            return kind == SIGN && tape[place] == ';';
        }

        boolean closes() {
            if (!atSemicolon()) {
                return fail(FAULT_STAND);
            }
            forward();
            return true;
        }

        /** The NUMBER that must stand here, or NONE and the FAULT. */
        int numberWithin(int low, int high) {
            if (kind != NUMBER) {
                fail(FAULT_STAND);
                return NONE;
            }
            if (number < low || number > high) {
                fail(FAULT_NUMBER);
                return NONE;
            }
            int found = number;
            forward();
            return found;
        }

        /** The NAME that must stand here, or NONE and the FAULT; it is not passed yet. */
        long nameHere() {
            if (kind == WORD && word != NONE && key == NONE) {
                return word;
            }
            fail(FAULT_STAND);
            return NONE;
        }

        /** Which of these has the NAME that must stand here, or NONE and the FAULT. */
        int oneOf(long[] names, int many) {
            long name = nameHere();
            if (name == NONE) {
                return NONE;
            }
            int found = Book.indexOf(names, many, name);
            if (found == NONE) {
                fail(FAULT_NAME);
                return NONE;
            }
            forward();
            return found;
        }
    }

    /** Makes a BOOK of its TEXT. */
    private static final class BookReader {
        private boolean ordered = false;

        boolean take(Tokens tokens, Book book) {
            book.clear();
            ordered = false;
            boolean good = true;
            for (int parts = 0; parts < TAPE_ROOM && good && tokens.kind != Tokens.OVER; parts++) {
                switch (tokens.key) {
                    case CELL: good = takeCell(tokens, book); break;
                    case SECRET: good = takeSecret(tokens, book); break;
                    case PAGE: good = takePage(tokens, book); break;
                    case KNOWS: good = takeKnows(tokens, book); break;
                    case ORDER: good = takeOrder(tokens, book); break;
                    case READ: good = takeRead(tokens, book); break;
                    default: good = tokens.fail(FAULT_STAND); break;
                }
            }
            if (good && !ordered) {
                book.now.orderAll(book.cells);
            }
            return good;
        }

        /** A NAME of nothing yet, or NONE and the FAULT. */
        private static long newName(Tokens tokens, Book book) {
            long name = tokens.nameHere();
            if (name == NONE) {
                return NONE;
            }
            if (book.isTaken(name)) {
                tokens.fail(FAULT_NAME);
                return NONE;
            }
            tokens.forward();
            return name;
        }

        private static boolean takeCell(Tokens tokens, Book book) {
            if (book.cells >= MOST_CELLS) {
                return tokens.fail(FAULT_TOO_MANY);
            }
            tokens.forward();
            long name = newName(tokens, book);
            if (name == NONE) {
                return false;
            }
            int speed = tokens.skips(PRICKS) ? tokens.numberWithin(0, MOST_PRICKS) : USUAL_PRICKS;
            if (speed == NONE) {
                return false;
            }
            boolean blind = tokens.skips(BLIND);
            boolean rubs = tokens.skips(RUBS);
            if (!tokens.closes()) {
                return false;
            }
            book.addCell(name, speed, blind, rubs);
            return true;
        }

        private static boolean takeSecret(Tokens tokens, Book book) {
            if (book.secrets >= MOST_SECRETS) {
                return tokens.fail(FAULT_TOO_MANY);
            }
            tokens.forward();
            long name = newName(tokens, book);
            int letters = name == NONE ? NONE : lastNumber(tokens, LETTERS, 1, MOST_LETTERS);
            if (letters == NONE) {
                return false;
            }
            book.addSecret(name, letters);
            return true;
        }

        private static boolean takePage(Tokens tokens, Book book) {
            if (book.pages >= MOST_PAGES) {
                return tokens.fail(FAULT_TOO_MANY);
            }
            tokens.forward();
            long name = newName(tokens, book);
            int room = name == NONE ? NONE : lastNumber(tokens, ROOM, 0, MOST_ROOM);
            if (room == NONE) {
                return false;
            }
            book.addPage(name, room);
            return true;
        }

        /** WORD, NUMBER and ; at the end of a PART: the NUMBER, or NONE and the FAULT. */
        private static int lastNumber(Tokens tokens, int key, int low, int high) {
            if (!tokens.skips(key)) {
                tokens.fail(FAULT_STAND);
                return NONE;
            }
            int found = tokens.numberWithin(low, high);
            return found != NONE && tokens.closes() ? found : NONE;
        }

        private static boolean takeKnows(Tokens tokens, Book book) {
            tokens.forward();
            int cell = tokens.oneOf(book.cellNames, book.cells);
            int secret = cell == NONE ? NONE : tokens.oneOf(book.secretNames, book.secrets);
            if (secret == NONE || !tokens.closes()) {
                return false;
            }
            book.now.knows[cell] |= 1 << secret;
            return true;
        }

        private boolean takeOrder(Tokens tokens, Book book) {
            tokens.forward();
            State now = book.now;
            now.inOrder = 0;
            ordered = true;
            boolean more = true;
            // One more than there are CELLS would be one of them twice.
            for (int i = 0; i <= MOST_CELLS && more; i++) {
                int where = tokens.place;
                int cell = tokens.oneOf(book.cellNames, book.cells);
                if (cell == NONE) {
                    return false;
                }
                if (now.placeOf(cell) != NONE || now.inOrder >= MOST_CELLS) {
                    return tokens.failAt(FAULT_TWICE, where);
                }
                now.order[now.inOrder] = cell;
                now.inOrder++;
                more = !tokens.atSemicolon();
            }
            return tokens.closes();
        }

        private static boolean takeRead(Tokens tokens, Book book) {
            tokens.forward();
            int page = tokens.oneOf(book.pageNames, book.pages);
            int sixteenths = page == NONE ? NONE : lastNumber(tokens, ODDS, 0, SIXTEEN);
            if (sixteenths == NONE) {
                return false;
            }
            book.now.sixteenths[page] = sixteenths;
            return true;
        }
    }

    /** Makes ROUNDS of their TEXT. */
    private static final class RoundsReader {
        private final int[] open = new int[MOST_DEPTH];
        private int depth = 0;

        boolean take(Tokens tokens, Book book, Rounds rounds) {
            rounds.clear();
            depth = 0;
            boolean good = true;
            for (int i = 0; i < LONGEST_ROUNDS && good && tokens.kind != Tokens.OVER; i++) {
                good = tokens.key == END ? takeEnd(tokens, rounds) : takeStep(tokens, book, rounds);
            }
            if (good && depth > 0) {
                good = tokens.fail(FAULT_STAND);
            }
            rounds.present = good;
            return good;
        }

        private boolean takeEnd(Tokens tokens, Rounds rounds) {
            if (depth <= 0) {
                return tokens.fail(FAULT_STAND);
            }
            tokens.forward();
            if (!tokens.closes()) {
                return false;
            }
            depth--;
            rounds.close(open[depth]);
            return true;
        }

        private boolean takeStep(Tokens tokens, Book book, Rounds rounds) {
            int key = tokens.key;
            if (key < TURN || key == FULL || key == ALL) {
                return tokens.fail(FAULT_STAND);
            }
            if (rounds.steps >= MOST_STEPS) {
                return tokens.fail(FAULT_TOO_MANY);
            }
            if ((key == WHEN || key == LOOP) && depth >= MOST_DEPTH) {
                return tokens.fail(FAULT_TOO_DEEP);
            }
            tokens.forward();
            if (key == WHEN) {
                key = tokens.key;
                if (!Rounds.isTest(key)) {
                    return tokens.fail(FAULT_STAND);
                }
                tokens.forward();
            }
            int one = takeOne(tokens, book, key);
            int other = one == NONE ? NONE : takeOther(tokens, book, key);
            if (other == NONE || !tokens.closes()) {
                return false;
            }
            addStep(rounds, key, one, other);
            return true;
        }

        /** The first of what a STEP is about (0 if it is about nothing), or NONE and the FAULT. */
        private static int takeOne(Tokens tokens, Book book, int key) {
            switch (key) {
                case TURN:
                case LOOP: return tokens.numberWithin(1, MOST_AT_ONCE);
                case ILL:
                case MOVE:
                case KNOWS: return tokens.oneOf(book.cellNames, book.cells);
                case RUB:
                case DAMP:
                case FULL: return tokens.oneOf(book.pageNames, book.pages);
                case ALL: return tokens.oneOf(book.secretNames, book.secrets);
                default: return 0;
            }
        }

        /** Likewise the second. */
        private static int takeOther(Tokens tokens, Book book, int key) {
            switch (key) {
                case MOVE: return tokens.oneOf(book.cellNames, book.cells);
                case KNOWS: return tokens.oneOf(book.secretNames, book.secrets);
                default: return 0;
            }
        }

        private void addStep(Rounds rounds, int key, int one, int other) {
            int index = rounds.add(key, one, other);
            rounds.steps++;
            if ((key == LOOP || Rounds.isTest(key)) && depth < MOST_DEPTH) {
                open[depth] = index;
                depth++;
            }
        }
    }

    /** What a BOOK's TEXT tells, what became of it, and the ROUNDS. */
    private static final class Book {
        int cells = 0;
        int secrets = 0;
        int pages = 0;
        final long[] cellNames = new long[MOST_CELLS];
        final long[] secretNames = new long[MOST_SECRETS];
        final long[] pageNames = new long[MOST_PAGES];
        final int[] speed = new int[MOST_CELLS];
        int blind = 0;
        int rubs = 0;
        final int[] letters = new int[MOST_SECRETS];
        final int[] room = new int[MOST_PAGES];
        final State now = new State();
        final Rounds rounds = new Rounds();

        void clear() {
            cells = 0;
            secrets = 0;
            pages = 0;
            blind = 0;
            rubs = 0;
            now.clear();
            rounds.clear();
        }

        void copyFrom(Book other) {
            cells = other.cells;
            secrets = other.secrets;
            pages = other.pages;
            blind = other.blind;
            rubs = other.rubs;
            System.arraycopy(other.cellNames, 0, cellNames, 0, MOST_CELLS);
            System.arraycopy(other.secretNames, 0, secretNames, 0, MOST_SECRETS);
            System.arraycopy(other.pageNames, 0, pageNames, 0, MOST_PAGES);
            System.arraycopy(other.speed, 0, speed, 0, MOST_CELLS);
            System.arraycopy(other.letters, 0, letters, 0, MOST_SECRETS);
            System.arraycopy(other.room, 0, room, 0, MOST_PAGES);
            now.copyFrom(other.now);
            rounds.copyFrom(other.rounds);
        }

        static int indexOf(long[] names, int many, long name) {
            for (int i = 0; i < many; i++) {
                if (names[i] == name) {
                    return i;
                }
            }
            return NONE;
        }

        boolean isTaken(long name) {
            return indexOf(cellNames, cells, name) != NONE
                || indexOf(secretNames, secrets, name) != NONE
                || indexOf(pageNames, pages, name) != NONE;
        }

        void addCell(long name, int pricks, boolean isBlind, boolean isRubbing) {
            cellNames[cells] = name;
            speed[cells] = pricks;
            blind |= isBlind ? 1 << cells : 0;
            rubs |= isRubbing ? 1 << cells : 0;
            cells++;
        }

        void addSecret(long name, int many) {
            secretNames[secrets] = name;
            letters[secrets] = many;
            secrets++;
        }

        void addPage(long name, int many) {
            pageNames[pages] = name;
            room[pages] = many;
            pages++;
        }

        boolean hasCell(int cell) {
            return cell >= 0 && cell < cells;
        }

        boolean hasSecret(int secret) {
            return secret >= 0 && secret < secrets;
        }

        boolean hasPage(int page) {
            return page >= 0 && page < pages;
        }

        /** The set of CELLS that are not BLIND. */
        int seeing() {
            return (1 << cells) - 1 & ~blind;
        }

        int allSecrets() {
            return (1 << secrets) - 1;
        }
    }

    /** What became of a BOOK so far. */
    private static final class State {
        final int[] order = new int[MOST_CELLS];
        int inOrder = 0;
        private int place = 0;
        final int[] knows = new int[MOST_CELLS];
        final int[] made = new int[MOST_CELLS];
        final int[] sixteenths = new int[MOST_PAGES];
        // PRICKS by PAGE and SECRET; what they come to by PAGE, and what STANDS there.
        final int[] dots = new int[MOST_PAGES * MOST_SECRETS];
        final int[] used = new int[MOST_PAGES];
        final int[] stands = new int[MOST_PAGES];
        int ill = 0;
        int shut = 0;
        int turns = 0;
        int madeInAll = 0;

        static boolean has(int set, int member) {
            return (set >> member & 1) != 0;
        }

        void clear() {
            inOrder = 0;
            place = 0;
            ill = 0;
            shut = 0;
            turns = 0;
            madeInAll = 0;
            Arrays.fill(knows, 0);
            Arrays.fill(made, 0);
            Arrays.fill(sixteenths, 0);
            Arrays.fill(dots, 0);
            Arrays.fill(used, 0);
            Arrays.fill(stands, 0);
        }

        void copyFrom(State other) {
            inOrder = other.inOrder;
            place = other.place;
            ill = other.ill;
            shut = other.shut;
            turns = other.turns;
            madeInAll = other.madeInAll;
            System.arraycopy(other.order, 0, order, 0, MOST_CELLS);
            System.arraycopy(other.knows, 0, knows, 0, MOST_CELLS);
            System.arraycopy(other.made, 0, made, 0, MOST_CELLS);
            System.arraycopy(other.sixteenths, 0, sixteenths, 0, MOST_PAGES);
            System.arraycopy(other.dots, 0, dots, 0, MOST_PAGES * MOST_SECRETS);
            System.arraycopy(other.used, 0, used, 0, MOST_PAGES);
            System.arraycopy(other.stands, 0, stands, 0, MOST_PAGES);
        }

        void orderAll(int cells) {
            for (int cell = 0; cell < cells; cell++) {
                order[cell] = cell;
            }
            inOrder = cells;
        }

        /** The ORDER is this one, and its first has the book next. */
        void orderAnew(int[] cells) {
            System.arraycopy(cells, 0, order, 0, inOrder);
            place = 0;
        }

        int placeOf(int cell) {
            for (int i = 0; i < inOrder; i++) {
                if (order[i] == cell) {
                    return i;
                }
            }
            return NONE;
        }

        /** Where in the ORDER the book is in the next TURN; NONE if all are ILL. */
        int nextPlace() {
            for (int i = 0; i < inOrder; i++) {
                int at = place + i < inOrder ? place + i : place + i - inOrder;
                if (!has(ill, order[at])) {
                    return at;
                }
            }
            return NONE;
        }

        int usedInAll() {
            int sum = 0;
            for (int page = 0; page < MOST_PAGES; page++) {
                sum += used[page];
            }
            return sum;
        }

        int freeOf(Book book, int page) {
            return book.room[page] - used[page];
        }

        int cellsKnowing(int secret) {
            int set = 0;
            for (int cell = 0; cell < MOST_CELLS; cell++) {
                set |= has(knows[cell], secret) ? 1 << cell : 0;
            }
            return set;
        }

        /** Whether each of these CELLS KNOWS all of these SECRETS. */
        boolean isReached(int cells, int secrets) {
            for (int cell = 0; cell < MOST_CELLS; cell++) {
                if (has(cells, cell) && (secrets & ~knows[cell]) != 0) {
                    return false;
                }
            }
            return true;
        }

        boolean swapPlaces(int cell, int other) {
            int one = placeOf(cell);
            int two = placeOf(other);
            if (one == two || one == NONE || two == NONE) {
                return false;
            }
            order[one] = other;
            order[two] = cell;
            return true;
        }

        /** RUB: how many PRICKS went. */
        int erasePage(int page) {
            int gone = used[page];
            for (int secret = 0; secret < MOST_SECRETS; secret++) {
                dots[page * MOST_SECRETS + secret] = 0;
            }
            used[page] = 0;
            stands[page] = 0;
            return gone;
        }

        /** The book goes on by one TURN: the CELL that has it, or NONE. */
        private int goOn() {
            int at = nextPlace();
            if (at == NONE) {
                return NONE;
            }
            place = at + 1 < inOrder ? at + 1 : 0;
            return order[at];
        }

        /** A TURN; whether anything but the book's place is other than ahead. */
        boolean pass(Book book) {
            turns++;
            int cell = goOn();
            if (cell == NONE) {
                return false;
            }
            int knownAhead = knows[cell];
            int madeAhead = madeInAll;
            if (!has(book.blind, cell)) {
                knows[cell] |= standingInAll(book);
                if (has(book.rubs, cell)) {
                    eraseFirstNew(book, knownAhead);
                }
            }
            makePricks(book, cell);
            // What is rubbed out was not known ahead, so that this tells of it, too.
            return knows[cell] != knownAhead || madeInAll != madeAhead;
        }

        void passMany(Book book, int many) {
            int done = 0;
            int still = 0;
            // When nothing came of a whole round, nothing comes of any.
            while (done < many && still < inOrder) {
                still = pass(book) ? 0 : still + 1;
                done++;
            }
            skip(many - done);
        }

        /** TURNS of which nothing comes but that the book goes on. */
        private void skip(int many) {
            int well = 0;
            for (int i = 0; i < inOrder; i++) {
                well += has(ill, order[i]) ? 0 : 1;
            }
            turns += many;
            int rest = many > 0 && well > 0 ? (many - 1) % well + 1 : 0;
            for (int i = 0; i < rest; i++) {
                goOn();
            }
        }

        private int standingInAll(Book book) {
            int set = 0;
            for (int page = 0; page < book.pages; page++) {
                set |= has(shut, page) ? 0 : stands[page];
            }
            return set;
        }

        private void eraseFirstNew(Book book, int knownAhead) {
            for (int page = 0; page < book.pages; page++) {
                int fresh = has(shut, page) ? 0 : stands[page] & ~knownAhead;
                for (int secret = 0; secret < book.secrets && fresh != 0; secret++) {
                    if (has(fresh, secret)) {
                        eraseSecret(page, secret);
                        return;
                    }
                }
            }
        }

        private void eraseSecret(int page, int secret) {
            int at = page * MOST_SECRETS + secret;
            used[page] -= dots[at];
            dots[at] = 0;
            stands[page] &= ~(1 << secret);
        }

        private void makePricks(Book book, int cell) {
            int left = book.speed[cell];
            int wanted = knows[cell] & ~standingInAll(book);
            for (int secret = 0; secret < book.secrets && left > 0; secret++) {
                int page = has(wanted, secret) ? pageFor(book, secret) : NONE;
                if (page != NONE) {
                    left -= makeOn(book, page, secret, left);
                }
            }
            made[cell] += book.speed[cell] - left;
            madeInAll += book.speed[cell] - left;
        }

        private int pageFor(Book book, int secret) {
            int found = NONE;
            int most = NONE;
            for (int page = 0; page < book.pages; page++) {
                int there = dots[page * MOST_SECRETS + secret];
                if (!has(shut, page) && used[page] < book.room[page] && there > most) {
                    most = there;
                    found = page;
                }
            }
            return found;
        }

        /** PRICKS of a SECRET on a PAGE, at most so many: how many were made. */
        private int makeOn(Book book, int page, int secret, int left) {
            int at = page * MOST_SECRETS + secret;
            int lack = book.letters[secret] - dots[at];
            int many = Math.min(left, Math.min(lack, freeOf(book, page)));
            dots[at] += many;
            used[page] += many;
            if (many == lack) {
                stands[page] |= 1 << secret;
            }
            return many;
        }
    }

    /** The STEPS of ROUNDS and their ends, as they stand. */
    private static final class Rounds {
        static final int LONGEST = 2 * MOST_STEPS;

        boolean present = false;
        int steps = 0;
        int size = 0;
        final int[] code = new int[LONGEST];
        final int[] one = new int[LONGEST];
        final int[] other = new int[LONGEST];
        // Of a STEP that has an end, where that stands; of an end, its STEP.
        final int[] mate = new int[LONGEST];

        static boolean isTest(int key) {
            return key == KNOWS || key == FULL || key == ALL;
        }

        void clear() {
            present = false;
            steps = 0;
            size = 0;
        }

        void copyFrom(Rounds from) {
            present = from.present;
            steps = from.steps;
            size = from.size;
            System.arraycopy(from.code, 0, code, 0, size);
            System.arraycopy(from.one, 0, one, 0, size);
            System.arraycopy(from.other, 0, other, 0, size);
            System.arraycopy(from.mate, 0, mate, 0, size);
        }

        int add(int key, int about, int alsoAbout) {
            if (size >= LONGEST) {
                return NONE;
            }
            code[size] = key;
            one[size] = about;
            other[size] = alsoAbout;
            mate[size] = NONE;
            size++;
            return size - 1;
        }

        void close(int begun) {
            int end = add(END, 0, 0);
            if (end != NONE && begun >= 0 && begun < end) {
                mate[end] = begun;
                mate[begun] = end;
            }
        }
    }

    /** What is ahead if nothing else happens, and the BEST ORDER told latest. */
    private static final class Ahead {
        private final State probe = new State();
        private final int[] trial = new int[MOST_CELLS];
        final int[] best = new int[BEST_CELLS];
        int bestMany = 0;

        int turnsTill(Book book, int cells, int secrets) {
            probe.copyFrom(book.now);
            return probeTill(book, cells, secrets, FAR_AHEAD);
        }

        State behind(Book book, int turns) {
            probe.copyFrom(book.now);
            probe.passMany(book, turns);
            return probe;
        }

        private int probeTill(Book book, int cells, int secrets, int most) {
            int still = 0;
            for (int turn = 0; turn <= most; turn++) {
                if (probe.isReached(cells, secrets)) {
                    return turn;
                }
                // When nothing came of a whole round, nothing comes of any.
                if (still >= probe.inOrder) {
                    return NONE;
                }
                still = probe.pass(book) ? 0 : still + 1;
            }
            return NONE;
        }

        /** The BEST ORDER comes to `best`: its TURNS, or NONE. */
        int seekBest(Book book) {
            int many = book.now.inOrder;
            if (many > BEST_CELLS) {
                return NONE;
            }
            sortInto(book.now);
            int soonest = MOST_AT_ONCE + 1;
            boolean more = true;
            for (int i = 0; i < BEST_ORDERS && more && soonest > 0; i++) {
                probe.copyFrom(book.now);
                probe.orderAnew(trial);
                // Of several the first is taken, so a later one must be sooner.
                int turns = probeTill(book, book.seeing(), book.allSecrets(), soonest - 1);
                if (turns != NONE) {
                    soonest = turns;
                    bestMany = many;
                    System.arraycopy(trial, 0, best, 0, many);
                }
                more = permute(many);
            }
            return soonest > MOST_AT_ONCE ? NONE : soonest;
        }

        private void sortInto(State now) {
            int many = 0;
            for (int cell = 0; cell < MOST_CELLS; cell++) {
                if (now.placeOf(cell) != NONE) {
                    trial[many] = cell;
                    many++;
                }
            }
        }

        /** The next one of all orders by CELLS; false behind the last. */
        private boolean permute(int many) {
            int at = many - 2;
            while (at >= 0 && trial[at] > trial[at + 1]) {
                at--;
            }
            if (at < 0) {
                return false;
            }
            int with = many - 1;
            while (with > at + 1 && trial[with] < trial[at]) {
                with--;
            }
            swap(at, with);
            for (int low = at + 1, high = many - 1; low < high; low++, high--) {
                swap(low, high);
            }
            return true;
        }

        private void swap(int a, int b) {
            int kept = trial[a];
            trial[a] = trial[b];
            trial[b] = kept;
        }
    }

    /** ROUNDS as they are LIVED by a seed. */
    private static final class Life {
        static final int TOLD = 5;
        // No ROUNDS come to as many STEPS and ends.
        private static final int GUARD = 1000000;

        int steps = 0;
        private int missed = 0;
        private int turns = 0;
        private int made = 0;
        private int found = 0;
        private int left = 0;
        private int seed = 0;
        private final int[] loopsLeft = new int[Rounds.LONGEST];
        private final State probe = new State();

        void tellTo(int[] told) {
            told[0] = missed;
            told[1] = turns;
            told[2] = made;
            told[3] = found;
            told[4] = left;
        }

        /** What can be run through while all stays as it is. */
        State probeOf(Book book) {
            probe.copyFrom(book.now);
            return probe;
        }

        void run(Book book, State state, int from) {
            Rounds rounds = book.rounds;
            seed = from;
            steps = 0;
            missed = 0;
            found = 0;
            left = 0;
            int turnsAhead = state.turns;
            int madeAhead = state.madeInAll;
            int at = 0;
            for (int i = 0; i < GUARD && at < rounds.size; i++) {
                if (rounds.code[at] == END) {
                    at = behindEnd(rounds, at);
                } else if (steps >= STEPS_LIVED) {
                    left = 1;
                    at = rounds.size;
                } else {
                    steps++;
                    at = takeStep(book, state, at);
                }
            }
            turns = state.turns - turnsAhead;
            made = state.madeInAll - madeAhead;
        }

        private int behindEnd(Rounds rounds, int at) {
            int begun = rounds.mate[at];
            if (begun < 0 || rounds.code[begun] != LOOP) {
                return at + 1;
            }
            loopsLeft[begun]--;
            return loopsLeft[begun] > 0 ? begun + 1 : at + 1;
        }

        /** Does a STEP, or misses it: which one comes then. */
        private int takeStep(Book book, State state, int at) {
            Rounds rounds = book.rounds;
            int about = rounds.one[at];
            int then = at + 1;
            boolean done = true;
            switch (rounds.code[at]) {
                case STOP: then = rounds.size; break;
                case LOOP: loopsLeft[at] = about; break;
                case KNOWS:
                case FULL:
                case ALL: then = holds(book, state, at) ? at + 1 : rounds.mate[at] + 1; break;
                case ILL: state.ill ^= 1 << about; break;
                case DAMP: state.shut ^= 1 << about; break;
                case MOVE: done = state.swapPlaces(about, rounds.other[at]); break;
                case RUB: done = state.erasePage(about) > 0; break;
                case TURN:
                    done = state.turns + about <= LAST_TURN;
                    state.passMany(book, done ? about : 0);
                    break;
                default: done = searches(book, state); break;
            }
            missed += done ? 0 : 1;
            return then;
        }

        private static boolean holds(Book book, State state, int at) {
            int about = book.rounds.one[at];
            switch (book.rounds.code[at]) {
                case KNOWS: return State.has(state.knows[about], book.rounds.other[at]);
                case FULL: return state.freeOf(book, about) == 0;
                default: return state.isReached(book.seeing(), 1 << about);
            }
        }

        /** The WARDER goes through the PAGES; false if he rubs out nothing. */
        private boolean searches(Book book, State state) {
            int gone = 0;
            for (int page = 0; page < book.pages; page++) {
                if (!State.has(state.shut, page) && drawSixteenth() < state.sixteenths[page]) {
                    gone += state.erasePage(page);
                }
            }
            found += gone;
            return gone > 0;
        }

        private int drawSixteenth() {
            seed = (seed * 2969 + 10651) % 65536;
            return seed / 8 % SIXTEEN;
        }
    }
}
