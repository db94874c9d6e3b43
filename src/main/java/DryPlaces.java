import java.util.Arrays;

/**
 * A gallery of dry places. What each method answers is promised, by number, in ../shared/DOC.md;
 * words in capitals below are that document's terms.
 */
public final class DryPlaces {
    public static final int NONE = -1;

    private static final int NO_SUCH = NONE - 1;
    private static final int PLACES = 10;
    private static final int MOST_YEAR = 99;
    private static final int ROOMS = 6;
    private static final int MOST_LIGHT = 9;
    private static final int SIDE = 8;
    private static final int CELLS = 64;
    private static final int ROW_BITS = 255;
    private static final int TEXTS = 4;
    private static final int THE_LAW = 0;
    private static final int PASSAGES = 1;
    private static final int DIARY = 2;
    private static final int VOUCHES = 3;
    private static final int LINES = 16;
    private static final int TAPE = 400;
    private static final int BOOK_LINES = 150;
    private static final int PARTS = 4;
    private static final int KEPT = 6;
    private static final int MOST_DAYS = 60;
    private static final int LAST_DAY = 9999;
    private static final int FULL_PURSE = 99999;
    private static final int MOST_WORTH = 9999;
    private static final int BUY = 0;
    private static final int SELL = 1;
    private static final int HANG = 2;
    private static final int LIGHT = 3;
    private static final int HOSE = 4;
    private static final int WIPE = 5;

    private final World world = new World();
    private final Texts texts = new Texts();
    private final int[] lines = new int[BOOK_LINES * PARTS];
    private final Past past = new Past();
    private final Tape tape = new Tape();
    private final Parser parser = new Parser(tape);
    private final Teller teller = new Teller(texts.law);
    private final Keeper keeper = new Keeper(world, texts, teller, lines);
    private final World thought = new World();
    private final Keeper thinker = new Keeper(thought, texts, teller, null);
    private final Tour rounds = new Tour();
    private final int[] prices = new int[PLACES];
    private final World imageWorld = new World();
    private final Texts imageTexts = new Texts();
    private final int[] imageLines = new int[BOOK_LINES * PARTS];
    private boolean imageTaken;

    public DryPlaces() {
    }

    // ---- what is told and done

    public int state(int v) {
        int was = world.draws;
        world.draws = v;
        past.forget();
        return was;
    }

    public int place(int year) {
        if (!isWithin(year, 0, MOST_YEAR) || world.count >= PLACES) {
            return NONE;
        }
        past.forget();
        return world.add(year);
    }

    public boolean row(int place, int row, int dry) {
        if (!world.has(place) || !isWithin(row, 0, SIDE - 1) || !isWithin(dry, 0, ROW_BITS)) {
            return false;
        }
        past.forget();
        world.dry[place] = Ground.withRow(world.dry[place], row, dry);
        return true;
    }

    public boolean purse(int v) {
        if (!isWithin(v, 0, FULL_PURSE)) {
            return false;
        }
        past.forget();
        world.purse = v;
        return true;
    }

    public boolean act(int what, int who, int v) {
        if (!keeper.canDo(what, who, v)) {
            return false;
        }
        past.keep(world);
        keeper.carryOut(what, who, v);
        return true;
    }

    public int days(int n) {
        if (!isWithin(n, 1, MOST_DAYS) || world.day + n > LAST_DAY) {
            return NONE;
        }
        int crept = 0;
        for (int i = 0; i < n; i++) {
            past.keep(world);
            crept += keeper.passDay();
        }
        return crept;
    }

    public int feed(int a, int b, int c, int d, int e) {
        if (!tape.hasSpaceForFive()) {
            return NONE;
        }
        tape.append(a);
        tape.append(b);
        tape.append(c);
        tape.append(d);
        tape.append(e);
        return tape.length;
    }

    public boolean end(int n) {
        if (!isWithin(n, 0, tape.length)) {
            return false;
        }
        tape.length = n;
        return true;
    }

    public int text(int k) {
        boolean good = parser.parse(k, world.count);
        tape.length = 0;
        if (!good) {
            return NONE;
        }
        if (k == DIARY) {
            past.forget();
        }
        texts.copyOne(k, parser.draft);
        return texts.count(k);
    }

    public int fault(int what) {
        switch (what) {
            case 0:
                return parser.fault;
            case 1:
                return parser.faultAt;
            default:
                return NONE;
        }
    }

    // ---- what is asked

    public int of(int place, int what) {
        if (!world.has(place)) {
            return NO_SUCH;
        }
        if (isWithin(what, 10, 10 + SIDE - 1)) {
            return Ground.rowOf(world.dry[place], what - 10);
        }
        switch (what) {
            case 0:
                return world.year[place];
            case 1:
                return world.hung[place];
            case 2:
                return world.isOwned(place) ? 1 : 0;
            case 3:
                return world.isHosed(place) ? 1 : 0;
            case 4:
                return world.paid[place];
            case 5:
                return teller.worthOf(world, place);
            case 6:
                return teller.comersTo(world, place);
            default:
                return NO_SUCH;
        }
    }

    public int creeps(int place, int cell) {
        if (!world.has(place) || !isCell(cell) || !Ground.isDry(world.dry[place], cell)) {
            return NONE;
        }
        return teller.chanceIn(world, place, Ground.wetBeside(world.dry[place], cell));
    }

    public int room(int room, int what) {
        if (!isRoom(room)) {
            return NO_SUCH;
        }
        if (what == 0) {
            return world.light[room];
        }
        if (!isWithin(what, 10, 10 + ROOMS - 1)) {
            return NO_SUCH;
        }
        int length = texts.passage[room * ROOMS + what - 10];
        return length == 0 ? NONE : length;
    }

    public int book(int i, int what) {
        if (!isWithin(i, 0, world.written - 1) || !isWithin(what, 0, PARTS - 1)) {
            return NONE;
        }
        return lines[i * PARTS + what];
    }

    // ---- in thought

    public int goes(int n, int what) {
        if (!isWithin(n, 1, MOST_DAYS) || !isWithin(what, 0, 2)) {
            return NONE;
        }
        thought.copy(world);
        for (int i = 0; i < n; i++) {
            thinker.passDay();
        }
        switch (what) {
            case 0:
                return thought.purse;
            case 1:
                return thought.seen;
            default:
                return thought.dryOfOwned();
        }
    }

    public int shape(int place, int what) {
        if (!world.has(place)) {
            return NONE;
        }
        long dry = world.dry[place];
        switch (what) {
            case 0:
                return Long.bitCount(dry);
            case 1:
                return Ground.edges(dry);
            case 2:
                return Ground.parts(dry);
            case 3:
                return Ground.holes(dry);
            case 4:
                return Ground.depth(dry);
            default:
                return NONE;
        }
    }

    public int turned(int a, int b) {
        if (!world.has(a) || !world.has(b) || world.dry[a] == 0 || world.dry[b] == 0) {
            return NONE;
        }
        long wanted = Ground.cornered(world.dry[b]);
        for (int turn = 0; turn < 8; turn++) {
            if (Ground.cornered(Ground.turnedBy(world.dry[a], turn)) == wanted) {
                return turn;
            }
        }
        return NONE;
    }

    public int square(int place, int what) {
        if (!world.has(place)) {
            return NONE;
        }
        long dry = world.dry[place];
        int side = Ground.squareSide(dry);
        int depth = Ground.depth(dry);
        switch (what) {
            case 0:
                return side;
            case 1:
                return Ground.firstOf(Ground.squareCorners(dry, side));
            case 2:
                return Long.bitCount(dry & ~Ground.squaresFrom(Ground.squareCorners(dry, side), side));
            case 3:
                // a diamond of r steps fits exactly where r shrinkings leave a dry cell
                return depth == 0 ? NONE : depth - 1;
            case 4:
                return Ground.firstOf(Ground.shrunk(dry, depth - 1));
            default:
                return NONE;
        }
    }

    public int fit(int a, int b, int what) {
        if (!world.has(a) || !world.has(b) || !isWithin(what, 0, 1)) {
            return NONE;
        }
        int push = Ground.bestPush(world.dry[a], world.dry[b]);
        if (push == NONE || what == 1) {
            return push;
        }
        return Ground.couples(world.dry[a], world.dry[b], push);
    }

    public int walk(int place, int from, int to, int what) {
        if (!world.has(place) || !isCell(from) || !isCell(to)) {
            return NONE;
        }
        long dry = world.dry[place];
        if (!Ground.isDry(dry, from) || !Ground.isDry(dry, to)) {
            return NONE;
        }
        switch (what) {
            case 0:
                return Ground.fewestSteps(dry, from, to);
            case 1:
                return Ground.fewestTurnings(dry, from, to);
            default:
                return NONE;
        }
    }

    public int sums(int place, int what) {
        if (!world.has(place)) {
            return NONE;
        }
        long dry = world.dry[place];
        if (isWithin(what, 0, 2 * SIDE - 1)) {
            return Ground.sumOf(dry, what);
        }
        if (what == 2 * SIDE) {
            return Ground.firstSwitch(dry);
        }
        if (what < 20 || !world.has(what - 20)) {
            return NONE;
        }
        return Ground.hasSameSums(dry, world.dry[what - 20]) ? 1 : 0;
    }

    public int buys(int w, int what) {
        if (!isWithin(w, 1, MOST_WORTH) || !isWithin(what, 0, 1)) {
            return NONE;
        }
        for (int p = 0; p < world.count; p++) {
            prices[p] = teller.worthOf(world, p);
        }
        int most = 0;
        int best = 0;
        for (int set = 0; set < 1 << world.count; set++) {
            if ((set & world.owned) == 0 && priceOf(set) <= w && world.dryOf(set) > most) {
                most = world.dryOf(set);
                best = set;
            }
        }
        return what == 0 ? most : best;
    }

    public int tour(int room, int what) {
        if (!isRoom(room) || !isWithin(what, 0, 1)) {
            return NONE;
        }
        int last = rounds.lastRoom(texts.passage, room);
        if (last == NONE || what == 1) {
            return last;
        }
        return rounds.lengthTo(last);
    }

    public int vouched(int place) {
        if (!world.has(place)) {
            return NONE;
        }
        int found = texts.vouchers[place];
        for (int i = 0; i < PLACES; i++) {
            found |= vouchersOfAll(found);
        }
        return found;
    }

    public int lie(int place, int left, int right) {
        if (!world.has(place) || !isCell(left) || !isCell(right)) {
            return NONE;
        }
        return Ground.isLie(world.dry[place], left, right) ? 1 : 0;
    }

    public int feet(int place) {
        if (!world.has(place)) {
            return NONE;
        }
        return Ground.standings(world.dry[place]);
    }

    public int game(int what) {
        int sum = 0;
        for (int p = 0; p < world.count; p++) {
            sum ^= heapOf(p) % 6;
        }
        for (int p = 0; p < world.count; p++) {
            int taken = winningTake(heapOf(p), sum);
            if (taken != NONE) {
                return what == 0 ? p : what == 1 ? taken : NONE;
            }
        }
        return NONE;
    }

    public boolean undo() {
        return past.goBack(world);
    }

    public boolean image(boolean taken) {
        if (taken) {
            imageWorld.copy(world);
            imageTexts.copyAll(texts);
            System.arraycopy(lines, 0, imageLines, 0, lines.length);
            imageTaken = true;
            return true;
        }
        if (!imageTaken) {
            return false;
        }
        world.copy(imageWorld);
        texts.copyAll(imageTexts);
        System.arraycopy(imageLines, 0, lines, 0, lines.length);
        past.forget();
        return true;
    }

    public int look(int what) {
        switch (what) {
            case 0:
                return world.count;
            case 1:
                return world.purse;
            case 2:
                return world.seen;
            case 3:
                return world.owned;
            case 4:
                return world.day;
            case 5:
                return world.written;
            case 6:
                return world.draws;
            case 7:
                return texts.count(THE_LAW);
            case 8:
                return texts.count(PASSAGES);
            case 9:
                return texts.count(DIARY);
            case 10:
                return texts.count(VOUCHES);
            case 11:
                return past.count;
            default:
                return NONE;
        }
    }

    // ---- helpers of the face

    private static boolean isWithin(int v, int least, int most) {
        return v >= least && v <= most;
    }

    private static boolean isCell(int cell) {
        return isWithin(cell, 0, CELLS - 1);
    }

    private static boolean isRoom(int room) {
        return isWithin(room, 0, ROOMS - 1);
    }

    private int priceOf(int set) {
        int price = 0;
        for (int p = 0; p < world.count; p++) {
            if ((set >> p & 1) != 0) {
                price += prices[p];
            }
        }
        return price;
    }

    private int vouchersOfAll(int set) {
        int found = 0;
        for (int p = 0; p < PLACES; p++) {
            if ((set >> p & 1) != 0) {
                found |= texts.vouchers[p];
            }
        }
        return found;
    }

    private int heapOf(int p) {
        return world.isOwned(p) ? Ground.edges(world.dry[p]) : 0;
    }

    /** The fewest to take of a heap so that the remainders by 6 cancel out, as the loser's must. */
    private static int winningTake(int heap, int sum) {
        int others = sum ^ heap % 6;
        for (int taken = 1; taken <= 5 && taken <= heap; taken++) {
            if ((heap - taken) % 6 == others) {
                return taken;
            }
        }
        return NONE;
    }

    /** All that acts and days change, and so all that an undoing puts back. */
    private static final class World {
        int count;
        int owned;
        int hosed;
        int purse;
        int seen;
        int day;
        int draws;
        int written;
        final long[] dry = new long[PLACES];
        final int[] year = new int[PLACES];
        final int[] hung = new int[PLACES];
        final int[] paid = new int[PLACES];
        final int[] light = new int[ROOMS];

        World() {
            Arrays.fill(hung, NONE);
        }

        void copy(World from) {
            count = from.count;
            owned = from.owned;
            hosed = from.hosed;
            purse = from.purse;
            seen = from.seen;
            day = from.day;
            draws = from.draws;
            written = from.written;
            System.arraycopy(from.dry, 0, dry, 0, PLACES);
            System.arraycopy(from.year, 0, year, 0, PLACES);
            System.arraycopy(from.hung, 0, hung, 0, PLACES);
            System.arraycopy(from.paid, 0, paid, 0, PLACES);
            System.arraycopy(from.light, 0, light, 0, ROOMS);
        }

        int add(int itsYear) {
            if (count >= PLACES) {
                return NONE;
            }
            // all else of it is as it was made: nothing but a place that is there is ever changed
            year[count] = itsYear;
            count++;
            return count - 1;
        }

        boolean has(int p) {
            return p >= 0 && p < count;
        }

        boolean isOwned(int p) {
            return (owned >> p & 1) != 0;
        }

        boolean isHosed(int p) {
            return (hosed >> p & 1) != 0;
        }

        boolean isShown(int p) {
            return isOwned(p) && hung[p] != NONE;
        }

        void earn(int much) {
            purse = Math.min(FULL_PURSE, purse + much);
        }

        int drawOfThousand() {
            draws = 1664525 * draws + 1013904223;
            return (draws >>> 8) % 1000;
        }

        int dryOf(int set) {
            int cells = 0;
            for (int p = 0; p < count; p++) {
                if ((set >> p & 1) != 0) {
                    cells += Long.bitCount(dry[p]);
                }
            }
            return cells;
        }

        int dryOfOwned() {
            return dryOf(owned);
        }
    }

    /** The latest worlds that can be gone back to, in a ring. */
    private static final class Past {
        final World[] kept = new World[KEPT];
        int first;
        int count;

        Past() {
            for (int i = 0; i < KEPT; i++) {
                kept[i] = new World();
            }
        }

        void keep(World world) {
            if (count == KEPT) {
                first = (first + 1) % KEPT;
                count--;
            }
            kept[(first + count) % KEPT].copy(world);
            count++;
        }

        boolean goBack(World world) {
            if (count == 0) {
                return false;
            }
            count--;
            world.copy(kept[(first + count) % KEPT]);
            return true;
        }

        void forget() {
            count = 0;
        }
    }

    /** THE LAW as steps over a stack: every line has those of its E and, behind them, those of its B. */
    private static final class Law {
        static final int NUMBER = 0;
        static final int KNOWN = 1;
        static final int PLUS = 2;
        static final int MINUS = 3;
        static final int TIMES = 4;
        static final int PART = 5;
        static final int BELOW = 6;
        static final int ALIKE = 7;
        static final int ABOVE = 8;
        static final int NOT = 9;
        static final int BOTH = 10;
        static final int EITHER = 11;

        int lines;
        int used;
        final int[] word = new int[LINES];
        final int[] value = new int[LINES];
        final int[] when = new int[LINES];
        final int[] stop = new int[LINES];
        final int[] op = new int[TAPE];
        final int[] arg = new int[TAPE];

        void clear() {
            lines = 0;
            used = 0;
        }

        void copy(Law from) {
            lines = from.lines;
            used = from.used;
            System.arraycopy(from.word, 0, word, 0, LINES);
            System.arraycopy(from.value, 0, value, 0, LINES);
            System.arraycopy(from.when, 0, when, 0, LINES);
            System.arraycopy(from.stop, 0, stop, 0, LINES);
            System.arraycopy(from.op, 0, op, 0, used);
            System.arraycopy(from.arg, 0, arg, 0, used);
        }

        void begin(int itsWord) {
            if (lines < LINES) {
                word[lines] = itsWord;
                value[lines] = used;
            }
        }

        void beginWhen() {
            if (lines < LINES) {
                when[lines] = used;
            }
        }

        void finish() {
            if (lines < LINES) {
                stop[lines] = used;
                lines++;
            }
        }

        void add(int itsOp, int itsArg) {
            if (used < TAPE) {
                op[used] = itsOp;
                arg[used] = itsArg;
                used++;
            }
        }
    }

    /** The four TEXTS as they were told last. */
    private static final class Texts {
        final Law law = new Law();
        final int[] told = new int[TEXTS];
        final int[] passage = new int[ROOMS * ROOMS];
        final int[] diary = new int[LINES * PARTS];
        final int[] vouchers = new int[PLACES];

        int count(int k) {
            return k == THE_LAW ? law.lines : k > 0 && k < TEXTS ? told[k] : 0;
        }

        void clearOne(int k) {
            if (k < 0 || k >= TEXTS) {
                return;
            }
            told[k] = 0;
            if (k == THE_LAW) {
                law.clear();
            } else if (k == PASSAGES) {
                Arrays.fill(passage, 0);
            } else if (k == VOUCHES) {
                Arrays.fill(vouchers, 0);
            }
        }

        void copyOne(int k, Texts from) {
            if (k < 0 || k >= TEXTS) {
                return;
            }
            told[k] = from.told[k];
            if (k == THE_LAW) {
                law.copy(from.law);
            } else if (k == PASSAGES) {
                System.arraycopy(from.passage, 0, passage, 0, passage.length);
            } else if (k == DIARY) {
                System.arraycopy(from.diary, 0, diary, 0, diary.length);
            } else {
                System.arraycopy(from.vouchers, 0, vouchers, 0, vouchers.length);
            }
        }

        void copyAll(Texts from) {
            for (int k = 0; k < TEXTS; k++) {
                copyOne(k, from);
            }
        }

        void addPassage(int a, int b, int length) {
            int known = passage[a * ROOMS + b];
            if (known == 0 || length < known) {
                passage[a * ROOMS + b] = length;
                passage[b * ROOMS + a] = length;
            }
            told[PASSAGES]++;
        }

        void addVoucher(int p, int by) {
            vouchers[p] |= 1 << by;
            told[VOUCHES]++;
        }

        void addEntry(int day, int what, int who, int v) {
            int at = told[DIARY] * PARTS;
            if (at + PARTS > diary.length) {
                return;
            }
            diary[at] = day;
            diary[at + 1] = what;
            diary[at + 2] = who;
            diary[at + 3] = v;
            told[DIARY]++;
        }
    }

    /** The TAPE, and the TOKENS on it one after another. */
    private static final class Tape {
        static final int END = 0;
        static final int NUMBER = 1;
        static final int STRANGE = 2;
        // a sign's kind is the sign itself, a word's is 100 and its number among WORDS
        static final int CREEPS = 100;
        static final int COMES = 102;
        static final int WHEN = 103;
        static final int OR = 104;
        static final int AND = 105;
        static final int NOT = 106;
        static final int DRY = 107;
        static final int LIGHTS = 110;
        static final int ROOM = 111;
        static final int WET = 115;
        static final int LONG = 116;
        static final int ON = 117;
        static final int BUYS = 118;
        static final int SELLS = 119;
        static final int HANGS = 120;
        static final int IN = 121;
        static final int HOSES = 122;
        static final int PLACE = 123;
        static final int BY = 124;
        static final String WORDS =
            "creeps worth comes when or and not dry edges year light room hosed paid day wet long on buy sell hang in hose place by ";
        static final String SIGNS = ";+-*/()<=>";
        static final int MOST_DIGITS = 4;

        final char[] sign = new char[TAPE];
        // a token is a sign at least, and behind the last one stands END
        final int[] kind = new int[TAPE + 1];
        final int[] value = new int[TAPE + 1];
        final int[] from = new int[TAPE + 1];
        int length;
        private int at;

        boolean hasSpaceForFive() {
            return length + 20 <= TAPE;
        }

        void append(int four) {
            for (int shift = 24; shift >= 0 && length < TAPE; shift -= 8) {
                sign[length] = (char) (four >>> shift & 255);
                length++;
            }
        }

        /** Writes down the TOKENS: their kinds, where they begin and, of NUMBERS, their values. */
        void cutUp() {
            at = 0;
            int tokens = 0;
            skipBlanks();
            while (at < length && tokens < TAPE) {
                from[tokens] = at;
                value[tokens] = 0;
                if (isLetter(at)) {
                    readWord(tokens);
                } else if (isDigit(at)) {
                    readNumber(tokens);
                } else {
                    kind[tokens] = SIGNS.indexOf(sign[at]) >= 0 ? sign[at] : STRANGE;
                    at++;
                }
                tokens++;
                skipBlanks();
            }
            kind[tokens] = END;
            from[tokens] = length;
        }

        private void skipBlanks() {
            while (at < length && (sign[at] == ' ' || sign[at] == 10)) {
                at++;
            }
        }

        private void readWord(int token) {
            int begin = at;
            while (at < length && isLetter(at)) {
                at++;
            }
            kind[token] = STRANGE;
            int word = CREEPS;
            int head = 0;
            for (int i = 0; i < WORDS.length(); i++) {
                if (WORDS.charAt(i) == ' ') {
                    if (i - head == at - begin && isWordAt(head, i, begin)) {
                        kind[token] = word;
                    }
                    word++;
                    head = i + 1;
                }
            }
        }

        private boolean isWordAt(int head, int tail, int begin) {
            for (int i = 0; i < tail - head; i++) {
                if (WORDS.charAt(head + i) != sign[begin + i]) {
                    return false;
                }
            }
            return true;
        }

        private void readNumber(int token) {
            int begin = at;
            while (at < length && isDigit(at)) {
                value[token] = 10 * value[token] + sign[at] - '0';
                at++;
            }
            kind[token] = at - begin <= MOST_DIGITS ? NUMBER : STRANGE;
        }

        private boolean isLetter(int i) {
            return sign[i] >= 'a' && sign[i] <= 'z' || sign[i] >= 'A' && sign[i] <= 'Z';
        }

        private boolean isDigit(int i) {
            return sign[i] >= '0' && sign[i] <= '9';
        }
    }

    /** Reads a TEXT from the TAPE into a draft; stops at the first FAULT. */
    private static final class Parser {
        static final int MOST_OPEN = 8;
        static final int MOST_DIARY_DAY = 999;
        static final int MOST_LENGTH = 99;
        static final int MOST_NUMBER = 9999;

        final Tape tape;
        final Texts draft = new Texts();
        int fault;
        int faultAt = NONE;
        private int places;
        private int token;
        private int kind;

        Parser(Tape tape) {
            this.tape = tape;
        }

        boolean parse(int k, int placesThatAre) {
            fault = 0;
            faultAt = NONE;
            if (k < 0 || k >= TEXTS) {
                return false;
            }
            places = placesThatAre;
            draft.clearOne(k);
            tape.cutUp();
            token = 0;
            kind = tape.kind[0];
            boolean good = true;
            for (int i = 0; i <= LINES && good && kind != Tape.END; i++) {
                if (!canBegin(k)) {
                    good = refuse(1);
                } else if (draft.count(k) >= LINES) {
                    good = refuse(3);
                } else if (k == THE_LAW) {
                    good = readLaw();
                } else if (k == PASSAGES) {
                    good = readPassage();
                } else if (k == DIARY) {
                    good = readEntry();
                } else {
                    good = readVoucher();
                }
            }
            return good;
        }

        private boolean canBegin(int k) {
            switch (k) {
                case THE_LAW:
                    return kind >= Tape.CREEPS && kind <= Tape.COMES;
                case PASSAGES:
                    return kind == Tape.ROOM;
                case DIARY:
                    return kind == Tape.ON;
                default:
                    return kind == Tape.PLACE;
            }
        }

        private boolean refuse(int itsFault) {
            fault = itsFault;
            faultAt = tape.from[token];
            return false;
        }

        private void step() {
            if (kind != Tape.END && token < TAPE) {
                token++;
                kind = tape.kind[token];
            }
        }

        private boolean take(int wanted) {
            if (kind != wanted) {
                return refuse(1);
            }
            step();
            return true;
        }

        /** A NUMBER of least .. most that is not the unlike one; NONE with a FAULT. */
        private int takeNumber(int least, int most, int unlike) {
            int value = tape.value[token];
            if (kind != Tape.NUMBER) {
                refuse(1);
                return NONE;
            }
            if (!isWithin(value, least, most) || value == unlike) {
                refuse(2);
                return NONE;
            }
            step();
            return value;
        }

        private int takePlace(int unlike) {
            return takeNumber(0, places - 1, unlike);
        }

        private int takeRoom(int unlike) {
            return takeNumber(0, ROOMS - 1, unlike);
        }

        private boolean readPassage() {
            step();
            int a = takeRoom(NONE);
            if (a == NONE || !take(Tape.ROOM)) {
                return false;
            }
            int b = takeRoom(a);
            if (b == NONE || !take(Tape.LONG)) {
                return false;
            }
            int length = takeNumber(1, MOST_LENGTH, NONE);
            if (length == NONE || !take(';')) {
                return false;
            }
            draft.addPassage(a, b, length);
            return true;
        }

        private boolean readVoucher() {
            step();
            int p = takePlace(NONE);
            if (p == NONE || !take(Tape.BY)) {
                return false;
            }
            int by = takePlace(p);
            if (by == NONE || !take(';')) {
                return false;
            }
            draft.addVoucher(p, by);
            return true;
        }

        private boolean readEntry() {
            step();
            int day = takeNumber(0, MOST_DIARY_DAY, NONE);
            if (day == NONE) {
                return false;
            }
            int what = actOfWord();
            if (what == NONE) {
                return refuse(1);
            }
            step();
            int who = what == LIGHT ? takeRoom(NONE) : takePlace(NONE);
            if (who == NONE) {
                return false;
            }
            int v = takeDetail(what);
            if (v == NONE || !take(';')) {
                return false;
            }
            draft.addEntry(day, what, who, v);
            return true;
        }

        private int actOfWord() {
            switch (kind) {
                case Tape.BUYS:
                    return BUY;
                case Tape.SELLS:
                    return SELL;
                case Tape.HANGS:
                    return HANG;
                case Tape.LIGHTS:
                    return LIGHT;
                case Tape.HOSES:
                    return HOSE;
                default:
                    return NONE;
            }
        }

        /** What a DIARY's line tells behind its PLACE or ROOM (0: it tells no more). */
        private int takeDetail(int what) {
            switch (what) {
                case HANG:
                    return take(Tape.IN) ? takeRoom(NONE) : NONE;
                case LIGHT:
                    return takeNumber(0, MOST_LIGHT, NONE);
                case HOSE:
                    return takeNumber(0, SIDE - 1, NONE);
                default:
                    return 0;
            }
        }

        private boolean readLaw() {
            draft.law.begin(kind - Tape.CREEPS);
            step();
            if (!readSum()) {
                return false;
            }
            draft.law.beginWhen();
            if (kind == Tape.WHEN) {
                step();
                if (!readCondition(0)) {
                    return false;
                }
            }
            if (!take(';')) {
                return false;
            }
            draft.law.finish();
            return true;
        }

        /** B, with its A in it; open: how many ( and not are open around it. */
        private boolean readCondition(int open) {
            if (!readOne(open)) {
                return false;
            }
            // an or waits until all that its right side joins by and has been read
            int waits = NONE;
            for (int i = 0; i < TAPE && (kind == Tape.OR || kind == Tape.AND); i++) {
                boolean isAnd = kind == Tape.AND;
                if (!isAnd) {
                    addWaiting(waits);
                    waits = Law.EITHER;
                }
                step();
                if (!readOne(open)) {
                    return false;
                }
                if (isAnd) {
                    draft.law.add(Law.BOTH, 0);
                }
            }
            addWaiting(waits);
            return true;
        }

        /** C. */
        private boolean readOne(int open) {
            boolean isNot = kind == Tape.NOT;
            if (isNot || kind == '(') {
                if (open >= MOST_OPEN) {
                    return refuse(3);
                }
                step();
                if (!isNot) {
                    return readCondition(open + 1) && take(')');
                }
                if (!readOne(open + 1)) {
                    return false;
                }
                draft.law.add(Law.NOT, 0);
                return true;
            }
            if (!readSum()) {
                return false;
            }
            int op = comparison();
            if (op == NONE) {
                return refuse(1);
            }
            step();
            if (!readSum()) {
                return false;
            }
            draft.law.add(op, 0);
            return true;
        }

        private int comparison() {
            switch (kind) {
                case '<':
                    return Law.BELOW;
                case '=':
                    return Law.ALIKE;
                case '>':
                    return Law.ABOVE;
                default:
                    return NONE;
            }
        }

        /** E, with its T in it. */
        private boolean readSum() {
            if (!readUnit()) {
                return false;
            }
            // a + or - waits until its right side has been multiplied and parted
            int waits = NONE;
            for (int i = 0; i < TAPE && isReckoning(); i++) {
                int sign = kind;
                step();
                if (sign == '/') {
                    int by = takeNumber(1, MOST_NUMBER, NONE);
                    if (by == NONE) {
                        return false;
                    }
                    draft.law.add(Law.PART, by);
                    continue;
                }
                if (sign != '*') {
                    addWaiting(waits);
                    waits = sign == '+' ? Law.PLUS : Law.MINUS;
                }
                if (!readUnit()) {
                    return false;
                }
                if (sign == '*') {
                    draft.law.add(Law.TIMES, 0);
                }
            }
            addWaiting(waits);
            return true;
        }

        private void addWaiting(int op) {
            if (op != NONE) {
                draft.law.add(op, 0);
            }
        }

        private boolean isReckoning() {
            return kind == '+' || kind == '-' || kind == '*' || kind == '/';
        }

        /** U. */
        private boolean readUnit() {
            if (kind == Tape.NUMBER) {
                draft.law.add(Law.NUMBER, tape.value[token]);
            } else if (kind >= Tape.DRY && kind <= Tape.WET) {
                draft.law.add(Law.KNOWN, kind - Tape.DRY);
            } else {
                return refuse(1);
            }
            step();
            return true;
        }
    }

    /** Asks THE LAW of a PLACE. */
    private static final class Teller {
        static final int CREEPS = 0;
        static final int WORTH = 1;
        static final int COMES = 2;
        // what a line can ask for, in the order of Tape.WORDS
        static final int DRY = 0;
        static final int EDGES = 1;
        static final int YEAR = 2;
        static final int LIGHT_THERE = 3;
        static final int ROOM_AND_1 = 4;
        static final int HOSED = 5;
        static final int PAID = 6;
        static final int DAY = 7;
        static final int WET = 8;
        static final int KNOWN = 9;
        // an or and an and may wait in each of nine brackets, and a comparison needs four
        static final int STACK = 22;
        static final int MOST_CHANCE = 1000;
        static final int MOST_COMERS = 99;

        private final Law law;
        private final int[] known = new int[KNOWN];
        private final int[] stack = new int[STACK];

        Teller(Law law) {
            this.law = law;
        }

        int worthOf(World world, int p) {
            face(world, p, 0);
            return held(ask(WORTH, 5 * known[DRY] + known[YEAR]), MOST_WORTH);
        }

        int comersTo(World world, int p) {
            face(world, p, 0);
            return held(ask(COMES, known[LIGHT_THERE] + known[DRY] / 8), MOST_COMERS);
        }

        int chanceIn(World world, int p, int wet) {
            face(world, p, wet);
            return held(ask(CREEPS, 10 * wet), MOST_CHANCE);
        }

        private static int held(int v, int most) {
            return Math.max(0, Math.min(most, v));
        }

        private void face(World world, int p, int wet) {
            int hung = world.hung[p];
            known[DRY] = Long.bitCount(world.dry[p]);
            known[EDGES] = Ground.edges(world.dry[p]);
            known[YEAR] = world.year[p];
            known[LIGHT_THERE] = isRoom(hung) ? world.light[hung] : 0;
            known[ROOM_AND_1] = hung + 1;
            known[HOSED] = world.isHosed(p) ? 1 : 0;
            known[PAID] = world.paid[p];
            known[DAY] = world.day;
            known[WET] = wet;
        }

        private int ask(int word, int otherwise) {
            for (int i = 0; i < law.lines; i++) {
                boolean hasWhen = law.when[i] < law.stop[i];
                if (law.word[i] == word && (!hasWhen || run(law.when[i], law.stop[i]) != 0)) {
                    return run(law.value[i], law.when[i]);
                }
            }
            return otherwise;
        }

        /** Runs the steps from .. stop - 1, which leave one number on the stack. */
        private int run(int from, int stop) {
            int top = 0;
            for (int i = from; i < stop && i < TAPE; i++) {
                int op = law.op[i];
                int arg = law.arg[i];
                if (op <= Law.KNOWN) {
                    if (top >= STACK || arg < 0 || op == Law.KNOWN && arg >= KNOWN) {
                        return 0;
                    }
                    stack[top] = op == Law.KNOWN ? known[arg] : arg;
                    top++;
                } else if (op == Law.PART || op == Law.NOT) {
                    if (top < 1) {
                        return 0;
                    }
                    stack[top - 1] = changed(op, stack[top - 1], arg);
                } else {
                    if (top < 2) {
                        return 0;
                    }
                    top--;
                    stack[top - 1] = joined(op, stack[top - 1], stack[top]);
                }
            }
            return top == 1 ? stack[0] : 0;
        }

        private static int changed(int op, int v, int by) {
            if (op == Law.NOT) {
                return 1 - v;
            }
            return by == 0 ? 0 : v / by;
        }

        private static int joined(int op, int a, int b) {
            switch (op) {
                case Law.PLUS:
                    return a + b;
                case Law.MINUS:
                    return a - b;
                case Law.TIMES:
                    return a * b;
                case Law.BELOW:
                    return a < b ? 1 : 0;
                case Law.ALIKE:
                    return a == b ? 1 : 0;
                case Law.ABOVE:
                    return a > b ? 1 : 0;
                case Law.BOTH:
                    return a & b;
                case Law.EITHER:
                    return a | b;
                default:
                    return 0;
            }
        }
    }

    /** Does to a world what hands and days do; one without a book does it in thought. */
    private static final class Keeper {
        static final int BOUGHT = 0;
        static final int SOLD = 1;
        static final int HUNG = 2;
        static final int HOSED = 3;
        static final int CREPT = 4;
        static final int SEEN = 5;
        static final int LIKELY = 500;

        private final World world;
        private final Texts texts;
        private final Teller teller;
        private final int[] lines;
        private final int[] chance = new int[5];

        Keeper(World world, Texts texts, Teller teller, int[] lines) {
            this.world = world;
            this.texts = texts;
            this.teller = teller;
            this.lines = lines;
        }

        boolean canDo(int what, int who, int v) {
            if (what == LIGHT) {
                return isRoom(who) && isWithin(v, 0, MOST_LIGHT);
            }
            if (!world.has(who)) {
                return false;
            }
            switch (what) {
                case BUY:
                    return !world.isOwned(who) && teller.worthOf(world, who) <= world.purse;
                case SELL:
                    return world.isOwned(who);
                case HANG:
                    return world.isOwned(who) && isRoom(v);
                case HOSE:
                    return isWithin(v, 0, SIDE - 1);
                case WIPE:
                    return world.isOwned(who) && isCell(v) && Ground.isDry(world.dry[who], v);
                default:
                    return false;
            }
        }

        /** Does what canDo has allowed. */
        void carryOut(int what, int who, int v) {
            switch (what) {
                case BUY:
                    purchase(who, teller.worthOf(world, who));
                    break;
                case SELL:
                    partWith(who, teller.worthOf(world, who));
                    break;
                case HANG:
                    world.hung[who] = v;
                    note(HUNG, who, v);
                    break;
                case LIGHT:
                    world.light[who] = v;
                    break;
                case HOSE:
                    world.hosed |= 1 << who;
                    world.dry[who] = Ground.withRow(world.dry[who], v, 0);
                    note(HOSED, who, v);
                    break;
                case WIPE:
                    world.dry[who] &= ~(1L << v);
                    break;
                default:
                    break;
            }
        }

        private void purchase(int p, int worth) {
            world.purse -= worth;
            world.paid[p] = worth;
            world.owned |= 1 << p;
            note(BOUGHT, p, worth);
        }

        private void partWith(int p, int worth) {
            world.earn(worth);
            world.paid[p] = 0;
            world.hung[p] = NONE;
            world.owned &= ~(1 << p);
            note(SOLD, p, worth);
        }

        private void note(int what, int which, int much) {
            if (lines == null || world.written >= BOOK_LINES) {
                return;
            }
            int at = world.written * PARTS;
            lines[at] = world.day;
            lines[at + 1] = what;
            lines[at + 2] = which;
            lines[at + 3] = much;
            world.written++;
        }

        /** A DAY goes by: how many cells crept. */
        int passDay() {
            keepDiary();
            int crept = 0;
            for (int p = 0; p < world.count; p++) {
                if (world.isShown(p)) {
                    crept += creepIn(p);
                }
            }
            for (int p = 0; p < world.count; p++) {
                if (world.isShown(p)) {
                    receive(p);
                }
            }
            world.day++;
            return crept;
        }

        private void keepDiary() {
            for (int i = 0; i < texts.count(DIARY); i++) {
                int at = i * PARTS;
                int what = texts.diary[at + 1];
                int who = texts.diary[at + 2];
                int v = texts.diary[at + 3];
                if (texts.diary[at] == world.day && canDo(what, who, v)) {
                    carryOut(what, who, v);
                }
            }
        }

        private int creepIn(int p) {
            long dry = world.dry[p];
            long rim = dry & ~Ground.shrunk(dry, 1);
            if (rim == 0) {
                return 0;
            }
            // a cell's chance hangs on nothing of the cell but how wet it is around it
            for (int wet = 1; wet <= 4; wet++) {
                chance[wet] = teller.chanceIn(world, p, wet);
            }
            long gone = 0;
            for (int cell = 0; cell < CELLS; cell++) {
                if (Ground.isDry(rim, cell) && isHit(chance[Ground.wetBeside(dry, cell)])) {
                    gone |= 1L << cell;
                }
            }
            world.dry[p] = dry & ~gone;
            int crept = Long.bitCount(gone);
            if (crept > 0) {
                note(CREPT, p, crept);
            }
            return crept;
        }

        private boolean isHit(int itsChance) {
            if (lines == null) {
                return itsChance >= LIKELY;
            }
            return itsChance > 0 && world.drawOfThousand() < itsChance;
        }

        private void receive(int p) {
            int comers = teller.comersTo(world, p);
            world.seen += comers;
            world.earn(comers);
            if (comers > 0) {
                note(SEEN, p, comers);
            }
        }
    }

    /** The shortest ways through all ROOMS. */
    private static final class Tour {
        static final int FAR = 1000000;
        static final int SETS = 1 << ROOMS;

        private final int[] far = new int[ROOMS * ROOMS];
        private final int[] best = new int[SETS * ROOMS];

        /** The least ROOM where a shortest tour from a ROOM ends; NONE if there is no tour. */
        int lastRoom(int[] passage, int from) {
            measure(passage);
            Arrays.fill(best, FAR);
            best[(1 << from) * ROOMS + from] = 0;
            for (int set = 0; set < SETS; set++) {
                for (int room = 0; room < ROOMS; room++) {
                    goOn(set, room);
                }
            }
            int last = 0;
            for (int room = 1; room < ROOMS; room++) {
                if (lengthTo(room) < lengthTo(last)) {
                    last = room;
                }
            }
            return lengthTo(last) < FAR ? last : NONE;
        }

        int lengthTo(int room) {
            return best[(SETS - 1) * ROOMS + room];
        }

        private void measure(int[] passage) {
            for (int i = 0; i < far.length; i++) {
                far[i] = passage[i] == 0 ? FAR : passage[i];
            }
            for (int over = 0; over < ROOMS; over++) {
                for (int a = 0; a < ROOMS; a++) {
                    for (int b = 0; b < ROOMS; b++) {
                        int round = far[a * ROOMS + over] + far[over * ROOMS + b];
                        far[a * ROOMS + b] = Math.min(far[a * ROOMS + b], round);
                    }
                }
            }
        }

        private void goOn(int set, int room) {
            int length = best[set * ROOMS + room];
            if (length >= FAR) {
                return;
            }
            for (int next = 0; next < ROOMS; next++) {
                if ((set >> next & 1) == 0) {
                    int to = (set | 1 << next) * ROOMS + next;
                    best[to] = Math.min(best[to], length + far[room * ROOMS + next]);
                }
            }
        }
    }

    /** What can be thought of a ground of eight by eight: bit 8 times row and column is set where it is dry. */
    private static final class Ground {
        static final long COLUMN_0 = 0x0101010101010101L;
        static final long COLUMN_7 = COLUMN_0 << 7;
        static final long ROW_0 = 255L;
        static final long BORDER = COLUMN_0 | COLUMN_7 | ROW_0 | ROW_0 << 56;
        static final int MOST_PUSH = 7;
        static final int PUSHES = 15;
        static final int STRIDE = 4;

        static boolean isDry(long dry, int cell) {
            return (dry >>> cell & 1) != 0;
        }

        static int rowOf(long dry, int row) {
            return (int) (dry >>> SIDE * row) & ROW_BITS;
        }

        static long withRow(long dry, int row, int bits) {
            return dry & ~(ROW_0 << SIDE * row) | (long) bits << SIDE * row;
        }

        static long up(long cells) {
            return cells >>> SIDE;
        }

        static long down(long cells) {
            return cells << SIDE;
        }

        static long left(long cells) {
            return cells >>> 1 & ~COLUMN_7;
        }

        static long right(long cells) {
            return cells << 1 & ~COLUMN_0;
        }

        static long beside(long cells) {
            return up(cells) | down(cells) | left(cells) | right(cells);
        }

        static int firstOf(long cells) {
            return cells == 0 ? NONE : Long.bitCount((cells & -cells) - 1);
        }

        static int wetBeside(long dry, int cell) {
            return 4 - Long.bitCount(beside(1L << cell) & dry);
        }

        static int edges(long dry) {
            return Long.bitCount(dry & ~up(dry)) + Long.bitCount(dry & ~down(dry))
                + Long.bitCount(dry & ~left(dry)) + Long.bitCount(dry & ~right(dry));
        }

        /** All of the cells that hang together with the seed. */
        static long partOf(long cells, long seed) {
            long part = seed & cells;
            long before = 0;
            for (int i = 0; i < CELLS && part != before; i++) {
                before = part;
                part |= beside(part) & cells;
            }
            return part;
        }

        static int parts(long cells) {
            long rest = cells;
            int parts = 0;
            for (int i = 0; i < CELLS && rest != 0; i++) {
                rest &= ~partOf(rest, rest & -rest);
                parts++;
            }
            return parts;
        }

        static int holes(long dry) {
            long wet = ~dry;
            return parts(wet & ~partOf(wet, BORDER));
        }

        static long shrunk(long dry, int times) {
            long rest = dry;
            for (int i = 0; i < times; i++) {
                rest &= up(rest) & down(rest) & left(rest) & right(rest);
            }
            return rest;
        }

        static int depth(long dry) {
            int depth = 0;
            long rest = dry;
            for (int i = 0; i < SIDE && rest != 0; i++) {
                rest = shrunk(rest, 1);
                depth++;
            }
            return depth;
        }

        static int turnedCell(int cell, int turn) {
            int row = cell / SIDE;
            int column = cell % SIDE;
            if (turn >= 4) {
                column = SIDE - 1 - column;
            }
            for (int i = 0; i < turn % 4; i++) {
                int was = row;
                row = column;
                column = SIDE - 1 - was;
            }
            return SIDE * row + column;
        }

        static long turnedBy(long dry, int turn) {
            long to = 0;
            for (int cell = 0; cell < CELLS; cell++) {
                if (isDry(dry, cell)) {
                    to |= 1L << turnedCell(cell, turn);
                }
            }
            return to;
        }

        /** The dry cells pushed up and to the left as far as they go. */
        static long cornered(long dry) {
            long cells = dry;
            for (int i = 0; i < SIDE && (cells & ROW_0) == 0; i++) {
                cells = up(cells);
            }
            for (int i = 0; i < SIDE && (cells & COLUMN_0) == 0; i++) {
                cells = left(cells);
            }
            return cells;
        }

        /** The upper left cells of all squares of a side that are all dry. */
        static long squareCorners(long dry, int side) {
            long corners = dry;
            for (int i = 1; i < side; i++) {
                corners &= left(corners);
                corners &= up(corners);
            }
            return corners;
        }

        static int squareSide(long dry) {
            int side = 0;
            for (int i = 1; i <= SIDE && squareCorners(dry, i) != 0; i++) {
                side = i;
            }
            return side;
        }

        /** All cells of the squares of a side with these corners. */
        static long squaresFrom(long corners, int side) {
            long cells = corners;
            for (int i = 1; i < side; i++) {
                cells |= right(cells);
                cells |= down(cells);
            }
            return cells;
        }

        static long pushed(long dry, int rows, int columns) {
            if (!isWithin(rows, -MOST_PUSH, MOST_PUSH) || !isWithin(columns, -MOST_PUSH, MOST_PUSH)) {
                return 0;
            }
            long cells = dry;
            if (columns >= 0) {
                cells = (cells & COLUMN_0 * (ROW_BITS >> columns)) << columns;
            } else {
                cells = (cells & COLUMN_0 * (ROW_BITS << -columns & ROW_BITS)) >>> -columns;
            }
            return rows >= 0 ? cells << SIDE * rows : cells >>> SIDE * -rows;
        }

        static int overlap(long a, long b, int rows, int columns) {
            return Long.bitCount(a & pushed(b, rows, columns));
        }

        /** Couples of cells beside one another, the second ground pushed; NONE if dry lies on dry. */
        static int couples(long a, long b, int push) {
            int rows = push / PUSHES - MOST_PUSH;
            int columns = push % PUSHES - MOST_PUSH;
            if (overlap(a, b, rows, columns) > 0) {
                return NONE;
            }
            // a cell beside another one would lie on it after one push more
            return overlap(a, b, rows - 1, columns) + overlap(a, b, rows + 1, columns)
                + overlap(a, b, rows, columns - 1) + overlap(a, b, rows, columns + 1);
        }

        static int bestPush(long a, long b) {
            int most = NONE;
            int best = NONE;
            for (int push = 0; push < PUSHES * PUSHES; push++) {
                int couples = couples(a, b, push);
                if (couples > most) {
                    most = couples;
                    best = push;
                }
            }
            return best;
        }

        static int fewestSteps(long dry, int from, int to) {
            long reached = 1L << from;
            for (int steps = 0; steps < CELLS; steps++) {
                if (isDry(reached, to)) {
                    return steps;
                }
                reached |= beside(reached) & dry;
            }
            return NONE;
        }

        static int fewestTurnings(long dry, int from, int to) {
            long reached = straightFrom(1L << from, dry);
            for (int turnings = 0; turnings < CELLS; turnings++) {
                if (isDry(reached, to)) {
                    return turnings;
                }
                reached = straightFrom(reached, dry);
            }
            return NONE;
        }

        /** All cells to which one can walk from these without a turning. */
        static long straightFrom(long cells, long dry) {
            long ups = cells;
            long downs = cells;
            long lefts = cells;
            long rights = cells;
            for (int i = 1; i < SIDE; i++) {
                ups |= up(ups) & dry;
                downs |= down(downs) & dry;
                lefts |= left(lefts) & dry;
                rights |= right(rights) & dry;
            }
            return ups | downs | lefts | rights;
        }

        static int sumOf(long dry, int which) {
            long cells = which < SIDE ? ROW_0 << SIDE * which : COLUMN_0 << which - SIDE;
            return Long.bitCount(dry & cells);
        }

        static boolean hasSameSums(long a, long b) {
            for (int which = 0; which < 2 * SIDE; which++) {
                if (sumOf(a, which) != sumOf(b, which)) {
                    return false;
                }
            }
            return true;
        }

        static int firstSwitch(long dry) {
            for (int r = 0; r < SIDE; r++) {
                for (int s = r + 1; s < SIDE; s++) {
                    int columns = switchColumns(rowOf(dry, r), rowOf(dry, s));
                    if (columns != NONE) {
                        return 1000 * r + 100 * s + columns;
                    }
                }
            }
            return NONE;
        }

        /** The first two columns of two rows where one is dry in the first row alone, the other in the second alone. */
        static int switchColumns(int upper, int lower) {
            int unlike = upper ^ lower;
            for (int c = 0; c < SIDE; c++) {
                for (int d = c + 1; d < SIDE; d++) {
                    boolean bothUnlike = (unlike >> c & unlike >> d & 1) != 0;
                    if (bothUnlike && (upper >> c & 1) != (upper >> d & 1)) {
                        return 10 * c + d;
                    }
                }
            }
            return NONE;
        }

        static boolean isLie(long dry, int left, int right) {
            if (left == right || !isDry(dry, left) || !isDry(dry, right)) {
                return true;
            }
            int rows = Math.abs(left / SIDE - right / SIDE);
            int columns = Math.abs(left % SIDE - right % SIDE);
            return rows + columns > STRIDE || !isDry(partOf(dry, 1L << left), right);
        }

        /** In how many ways feet can have stood. */
        static int standings(long dry) {
            int ways = 0;
            for (int left = 0; left < CELLS; left++) {
                if (isDry(dry, left)) {
                    ways += Long.bitCount(rightHeels(left) & partOf(dry, 1L << left));
                }
            }
            return ways;
        }

        /** All cells where the right heel can be by its row, its column and the length of a stride. */
        static long rightHeels(int left) {
            long ahead = 1L << left;
            long cells = 0;
            for (int i = 1; i < STRIDE; i++) {
                ahead = right(ahead);
                cells |= ahead | up(ahead) | down(ahead);
            }
            return cells | right(ahead);
        }
    }
}
