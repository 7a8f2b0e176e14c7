import java.util.Arrays;

/** A board of alarm windows over a plant; the document's promises are named by number at each method. */
public final class LitWindows {
    public static final int NONE = -1;

    private static final int MAX_TEXT = 600;
    private static final int MAX_POINTS = 12;
    private static final int MAX_ARCS = 24;
    private static final int MAX_WINDOWS = 12;
    private static final int MAX_RULES = 8;
    private static final int MAX_ROWS = 60;
    private static final int MAX_WAIT = 60;
    private static final int MAX_LAGS = 3;
    private static final int MAX_NAME = 8;
    private static final int MAX_SECOND = 999;
    private static final int MAX_HORN = 60;
    private static final int MAX_JOIN = 60;
    private static final int MAX_UNLIKE = 20;
    private static final int MAX_TILL = 600;
    private static final int MAX_PACE = 30;

    /** Stands for "never": above every second that can be told, and small enough to add to. */
    private static final int FAR = 1000000;

    private static final int STICKS_NOT = 0;
    private static final int STICKS_LIT = 1;
    private static final int STICKS_DARK = 2;

    private final Text text;
    private final Reader reader;
    private final Plant plant;
    private final Plant draft;
    private final Spread spread;
    private final Lamps lamps;
    private final Rows rows;
    private final Finder finder;
    private final Signs signs;
    private final Crew crew;

    /** Promise 1. */
    public LitWindows() {
        text = new Text();
        reader = new Reader(text);
        plant = new Plant();
        draft = new Plant();
        spread = new Spread(plant);
        lamps = new Lamps(plant, spread);
        rows = new Rows();
        finder = new Finder(plant, spread, rows);
        signs = new Signs(plant, lamps);
        crew = new Crew(plant, lamps, signs);
    }

    /** Promise 2. */
    public int feed(int a, int b, int c, int d, int e) {
        if (!text.hasRoom(20)) {
            return NONE;
        }
        text.addWord(a);
        text.addWord(b);
        text.addWord(c);
        text.addWord(d);
        text.addWord(e);
        return text.length;
    }

    /** Promise 3. */
    public boolean end(int n) {
        if (n < 0 || n > text.length) {
            return false;
        }
        text.length = n;
        return true;
    }

    /** Promise 4. */
    public int fault() {
        return reader.read(draft);
    }

    /** Promise 5. */
    public int plant() {
        if (reader.read(draft) != NONE) {
            return NONE;
        }
        plant.copyFrom(draft);
        lamps.reset();
        crew.reset();
        rows.size = 0;
        text.length = 0;
        return plant.points;
    }

    /** Promise 6. */
    public boolean stick(int window, int how) {
        if (!isWindow(window) || how < STICKS_NOT || how > STICKS_DARK) {
            return false;
        }
        lamps.how[window] = how;
        return true;
    }

    /** Promise 7. */
    public int window(int window, int what) {
        if (!isWindow(window)) {
            return NONE;
        }
        switch (what) {
            case 0: return plant.at[window];
            case 1: return plant.lag[window];
            case 2: return lamps.how[window];
            case 3: return crew.placeOf(window);
            default: return NONE;
        }
    }

    /** Promise 8. */
    public int fails(int heap, int point) {
        if (!isHeap(heap) || !isPoint(point)) {
            return NONE;
        }
        spread.run(heap);
        return orNone(spread.times[point]);
    }

    /** Promise 9. */
    public int lit(int heap, int window) {
        if (!isHeap(heap) || !isWindow(window)) {
            return NONE;
        }
        lamps.light(heap);
        return orNone(lamps.since[window]);
    }

    /** Promise 10. */
    public int first(int heap, int what) {
        if (!isHeap(heap) || what < 0 || what > 1) {
            return NONE;
        }
        lamps.light(heap);
        int window = lamps.firstOut();
        if (window == NONE || what == 0) {
            return window;
        }
        return hasBit(heap, plant.at[window]) ? 0 : 1;
    }

    /** Promise 11. */
    public int horns(int heap, int s) {
        if (!isHeap(heap) || s < 1 || s > MAX_HORN) {
            return NONE;
        }
        lamps.light(heap);
        return lamps.hornsBegun(s);
    }

    /** Promise 12. */
    public int log(int window, int second) {
        if (!isWindow(window) || !isSecond(second) || !rows.canAdd(second)) {
            return NONE;
        }
        rows.add(window, second);
        return rows.size;
    }

    /** Promise 13. */
    public int erase() {
        int had = rows.size;
        rows.size = 0;
        return had;
    }

    /** Promise 14. */
    public int joined(int g) {
        if (g < 0 || g > MAX_JOIN) {
            return NONE;
        }
        return rows.countApart(g);
    }

    /** Promise 15. */
    public boolean off(int e) {
        if (e < 0 || e > MAX_UNLIKE) {
            return false;
        }
        finder.unlike = e;
        return true;
    }

    /** Promise 16. */
    public int explain(int what) {
        if (what < 0 || what > 7 || !hasPlant()) {
            return NONE;
        }
        finder.search(NONE, 0);
        switch (what) {
            case 0: return finder.cost;
            case 1: return finder.heap;
            case 2: return finder.begin;
            case 3: return finder.wrong;
            case 4: return finder.heaps;
            case 5: return finder.inAll;
            case 6: return finder.inSome;
            default: return finder.alwaysWrong;
        }
    }

    /** Promise 17. */
    public int altered(int k, int second) {
        if (k < 0 || k >= rows.size || !isSecond(second)) {
            return NONE;
        }
        finder.search(k, second);
        return finder.cost;
    }

    /** Promise 18. */
    public boolean rest(int rule, boolean rests) {
        if (rule < 0 || rule >= plant.rules || hasBit(lamps.resting, rule) == rests) {
            return false;
        }
        lamps.resting ^= 1 << rule;
        return true;
    }

    /** Promise 19. */
    public boolean till(int t) {
        if (t < 1 || t > MAX_TILL) {
            return false;
        }
        signs.till = t;
        return true;
    }

    /** Promise 20. */
    public int board(int heap, int second, int what) {
        if (!isHeap(heap) || !isSecond(second) || what < 0 || what > 1) {
            return NONE;
        }
        lamps.light(heap);
        int seen = lamps.litAt(second);
        return what == 0 ? seen : lamps.shownOf(seen, lamps.resting);
    }

    /** Promise 21. */
    public int harm(int what) {
        if (what < 0 || what > 2 || !hasPlant()) {
            return NONE;
        }
        signs.load();
        if (what == 2) {
            return signs.rulesToRest();
        }
        signs.show(lamps.resting);
        return what == 0 ? signs.countLost() : signs.countAlike();
    }

    /** Promise 22. */
    public boolean change(int one, int other) {
        if (!isWindow(one) || !isWindow(other) || one == other) {
            return false;
        }
        crew.swap(one, other);
        return true;
    }

    /** Promise 23. */
    public int told(int point, int pace) {
        if (!isPoint(point) || !isPace(pace)) {
            return NONE;
        }
        crew.prepare();
        return crew.tell(point, pace);
    }

    /** Promise 24. */
    public int wall(int pace, int what) {
        if (what < 0 || what > 3 || !isPace(pace) || !hasPlant()) {
            return NONE;
        }
        crew.prepare();
        if (what == 0) {
            return crew.sum(pace);
        }
        crew.seekChange(pace);
        if (crew.lesser == NONE) {
            return NONE;
        }
        switch (what) {
            case 1: return crew.lesser;
            case 2: return crew.greater;
            default: return crew.leastSum;
        }
    }

    /** Promise 25. */
    public int count(int what) {
        switch (what) {
            case 0: return plant.points;
            case 1: return plant.arcs;
            case 2: return plant.windows;
            case 3: return plant.rules;
            case 4: return rows.size;
            case 5: return Integer.bitCount(lamps.resting);
            case 6: return lamps.countStuck();
            case 7: return text.length;
            default: return NONE;
        }
    }

    /** A plant without a fault has a point, so one without points is none. */
    private boolean hasPlant() {
        return plant.points > 0;
    }

    private boolean isPoint(int point) {
        return point >= 0 && point < plant.points;
    }

    /** Places are numbered as windows are, so this tells of both. */
    private boolean isWindow(int window) {
        return window >= 0 && window < plant.windows;
    }

    /** A heap is of a plant's points: without a plant not even the empty one can fail. */
    private boolean isHeap(int heap) {
        return hasPlant() && heap >= 0 && heap < 1 << plant.points;
    }

    private static boolean isSecond(int second) {
        return second >= 0 && second <= MAX_SECOND;
    }

    private static boolean isPace(int pace) {
        return pace >= 1 && pace <= MAX_PACE;
    }

    private static boolean hasBit(int bits, int place) {
        return (bits >> place & 1) != 0;
    }

    private static int orNone(int second) {
        return second >= FAR ? NONE : second;
    }

    /** The bytes that were fed. */
    private static final class Text {
        final byte[] bytes = new byte[MAX_TEXT];
        int length;

        boolean hasRoom(int more) {
            return length + more <= MAX_TEXT;
        }

        void addWord(int word) {
            for (int shift = 24; shift >= 0 && length < MAX_TEXT; shift -= 8) {
                bytes[length] = (byte) (word >> shift);
                length++;
            }
        }

        /** The byte at a place; 0, which begins no token, where there is none. */
        int signAt(int place) {
            return place >= 0 && place < length ? bytes[place] : 0;
        }
    }

    /** Goes through a text token by token. */
    private static final class Tokens {
        static final int WORD = 0;
        static final int NUMBER = 1;
        static final int SEMICOLON = 2;
        static final int BAD = 3;
        static final int OVER = 4;
        /** Above all numbers that can stand anywhere; longer ones are held here, so none wraps around. */
        static final int MAX_VALUE = 100000;

        final Text text;
        int kind;
        int start;
        int stop;
        int value;

        Tokens(Text text) {
            this.text = text;
        }

        void restart() {
            stop = 0;
            advance();
        }

        void advance() {
            start = stop;
            while (start < text.length && isBlank(text.signAt(start))) {
                start++;
            }
            stop = start;
            if (start >= text.length) {
                kind = OVER;
                return;
            }
            int sign = text.signAt(start);
            if (isLetter(sign)) {
                takeWord();
            } else if (isDigit(sign)) {
                takeNumber();
            } else {
                kind = sign == ';' ? SEMICOLON : BAD;
                stop = start + 1;
            }
        }

        private void takeWord() {
            kind = WORD;
            while (stop < text.length && isLetter(text.signAt(stop))) {
                stop++;
            }
        }

        private void takeNumber() {
            kind = NUMBER;
            value = 0;
            while (stop < text.length && isDigit(text.signAt(stop))) {
                value = Math.min(value * 10 + text.signAt(stop) - '0', MAX_VALUE);
                stop++;
            }
        }

        boolean isWord(String word) {
            if (kind != WORD || stop - start != word.length()) {
                return false;
            }
            for (int i = 0; i < word.length(); i++) {
                if (text.signAt(start + i) != word.charAt(i)) {
                    return false;
                }
            }
            return true;
        }

        boolean isName() {
            return kind == WORD && stop - start <= MAX_NAME && !isKept();
        }

        private boolean isKept() {
            return isWord("point") || isWord("any") || isWord("all") || isWord("from")
                || isWord("to") || isWord("in") || isWord("window") || isWord("of")
                || isWord("hide") || isWord("while") || isWord("not");
        }

        private static boolean isBlank(int sign) {
            return sign == 32 || sign == 10;
        }

        private static boolean isLetter(int sign) {
            return sign >= 'a' && sign <= 'z';
        }

        private static boolean isDigit(int sign) {
            return sign >= '0' && sign <= '9';
        }
    }

    /**
     * Reads a text into a plant. Each part answers false with the token that can't stand there
     * still the current one, so that the fault is always where that token starts.
     */
    private static final class Reader {
        final Text text;
        final Tokens tokens;
        final int[] nameStarts = new int[MAX_POINTS];
        final int[] nameStops = new int[MAX_POINTS];
        final int[] lags = new int[MAX_LAGS];
        /** What the part that was read last told: a point, a number. */
        int taken;

        Reader(Text text) {
            this.text = text;
            this.tokens = new Tokens(text);
        }

        /** The fault, or NONE: then the target is whole. */
        int read(Plant target) {
            target.clear();
            tokens.restart();
            boolean stands = true;
            for (int i = 0; i < MAX_TEXT && stands && tokens.kind != Tokens.OVER; i++) {
                if (tokens.isWord("point")) {
                    stands = target.points < MAX_POINTS && readPoint(target);
                } else if (tokens.isWord("from")) {
                    stands = target.arcs < MAX_ARCS && readArc(target);
                } else if (tokens.isWord("window")) {
                    stands = target.windows < MAX_WINDOWS && readWindow(target);
                } else {
                    stands = tokens.isWord("hide") && target.rules < MAX_RULES && readRule(target);
                }
            }
            if (!stands) {
                return tokens.start;
            }
            return target.points == 0 ? text.length : NONE;
        }

        private boolean readPoint(Plant target) {
            tokens.advance();
            if (!tokens.isName() || findPoint(target.points) != NONE) {
                return false;
            }
            nameStarts[target.points] = tokens.start;
            nameStops[target.points] = tokens.stop;
            tokens.advance();
            boolean all = tokens.isWord("all");
            if (!all && !tokens.isWord("any")) {
                return false;
            }
            tokens.advance();
            if (!takeSemicolon()) {
                return false;
            }
            target.addPoint(all);
            return true;
        }

        private boolean readArc(Plant target) {
            tokens.advance();
            if (!takePoint(target.points)) {
                return false;
            }
            int from = taken;
            if (!takeWord("to") || !takePoint(target.points)) {
                return false;
            }
            int to = taken;
            if (!takeWord("in") || !takeNumber(0, MAX_WAIT)) {
                return false;
            }
            int delay = taken;
            if (!takeSemicolon()) {
                return false;
            }
            target.addArc(from, to, delay);
            return true;
        }

        private boolean readWindow(Plant target) {
            tokens.advance();
            if (!takePoint(target.points)) {
                return false;
            }
            int point = taken;
            int told = 0;
            while (told < MAX_LAGS && (told == 0 || tokens.kind == Tokens.NUMBER)) {
                if (!takeNumber(0, MAX_WAIT)) {
                    return false;
                }
                lags[told] = taken;
                told++;
            }
            int votes = 1;
            if (told > 1) {
                if (!takeWord("of") || !takeNumber(1, told)) {
                    return false;
                }
                votes = taken;
            }
            if (!takeSemicolon()) {
                return false;
            }
            target.addWindow(point, leastLag(told, votes));
            return true;
        }

        private boolean readRule(Plant target) {
            tokens.advance();
            int last = target.windows - 1;
            if (!takeNumber(0, last)) {
                return false;
            }
            int hides = taken;
            if (!takeWord("while") || isNumber(hides) || !takeNumber(0, last)) {
                return false;
            }
            int cause = taken;
            int unless = NONE;
            if (tokens.isWord("not")) {
                tokens.advance();
                if (isNumber(hides) || isNumber(cause) || !takeNumber(0, last)) {
                    return false;
                }
                unless = taken;
            }
            if (!takeSemicolon()) {
                return false;
            }
            target.addRule(hides, cause, unless);
            return true;
        }

        private boolean takeWord(String word) {
            if (!tokens.isWord(word)) {
                return false;
            }
            tokens.advance();
            return true;
        }

        private boolean takeSemicolon() {
            if (tokens.kind != Tokens.SEMICOLON) {
                return false;
            }
            tokens.advance();
            return true;
        }

        private boolean isNumber(int value) {
            return tokens.kind == Tokens.NUMBER && tokens.value == value;
        }

        private boolean takeNumber(int least, int most) {
            if (tokens.kind != Tokens.NUMBER || tokens.value < least || tokens.value > most) {
                return false;
            }
            taken = tokens.value;
            tokens.advance();
            return true;
        }

        private boolean takePoint(int points) {
            int point = findPoint(points);
            if (point == NONE) {
                return false;
            }
            taken = point;
            tokens.advance();
            return true;
        }

        private int findPoint(int points) {
            for (int i = 0; i < points; i++) {
                if (tokens.kind == Tokens.WORD && isNamed(i)) {
                    return i;
                }
            }
            return NONE;
        }

        private boolean isNamed(int point) {
            int length = nameStops[point] - nameStarts[point];
            if (tokens.stop - tokens.start != length) {
                return false;
            }
            for (int i = 0; i < length; i++) {
                if (text.signAt(nameStarts[point] + i) != text.signAt(tokens.start + i)) {
                    return false;
                }
            }
            return true;
        }

        /** The lag of that rank: the least one that has so many lags not above it. */
        private int leastLag(int told, int rank) {
            int least = MAX_WAIT;
            for (int i = 0; i < told; i++) {
                int notAbove = 0;
                for (int j = 0; j < told; j++) {
                    if (lags[j] <= lags[i]) {
                        notAbove++;
                    }
                }
                if (notAbove >= rank) {
                    least = Math.min(least, lags[i]);
                }
            }
            return least;
        }
    }

    /** What a text tells: points, arcs, windows and rules. */
    private static final class Plant {
        int points;
        int arcs;
        int windows;
        int rules;
        final boolean[] all = new boolean[MAX_POINTS];
        final int[] from = new int[MAX_ARCS];
        final int[] to = new int[MAX_ARCS];
        final int[] delay = new int[MAX_ARCS];
        final int[] at = new int[MAX_WINDOWS];
        final int[] lag = new int[MAX_WINDOWS];
        final int[] hides = new int[MAX_RULES];
        final int[] cause = new int[MAX_RULES];
        final int[] unless = new int[MAX_RULES];

        void clear() {
            points = 0;
            arcs = 0;
            windows = 0;
            rules = 0;
        }

        void addPoint(boolean needsAll) {
            if (points < MAX_POINTS) {
                all[points] = needsAll;
                points++;
            }
        }

        void addArc(int source, int target, int seconds) {
            if (arcs < MAX_ARCS) {
                from[arcs] = source;
                to[arcs] = target;
                delay[arcs] = seconds;
                arcs++;
            }
        }

        void addWindow(int point, int seconds) {
            if (windows < MAX_WINDOWS) {
                at[windows] = point;
                lag[windows] = seconds;
                windows++;
            }
        }

        void addRule(int hidden, int whileLit, int unlessLit) {
            if (rules < MAX_RULES) {
                hides[rules] = hidden;
                cause[rules] = whileLit;
                unless[rules] = unlessLit;
                rules++;
            }
        }

        void copyFrom(Plant other) {
            clear();
            for (int i = 0; i < other.points; i++) {
                addPoint(other.all[i]);
            }
            for (int i = 0; i < other.arcs; i++) {
                addArc(other.from[i], other.to[i], other.delay[i]);
            }
            for (int i = 0; i < other.windows; i++) {
                addWindow(other.at[i], other.lag[i]);
            }
            for (int i = 0; i < other.rules; i++) {
                addRule(other.hides[i], other.cause[i], other.unless[i]);
            }
        }
    }

    /** The second at which each point fails, if a heap fails of its own. */
    private static final class Spread {
        final Plant plant;
        final int[] times = new int[MAX_POINTS];
        final int[] soonest = new int[MAX_POINTS];
        final int[] latest = new int[MAX_POINTS];

        Spread(Plant plant) {
            this.plant = plant;
        }

        /**
         * All begin as never failing and only come nearer, so that a ring of points can't fail
         * by itself. What fails hangs on at most all others in turn: so many rounds do.
         */
        void run(int heap) {
            for (int i = 0; i < plant.points; i++) {
                times[i] = hasBit(heap, i) ? 0 : FAR;
            }
            boolean changed = true;
            for (int round = 0; round <= plant.points && changed; round++) {
                gather();
                changed = settle();
            }
        }

        private void gather() {
            Arrays.fill(soonest, FAR);
            Arrays.fill(latest, NONE);
            for (int i = 0; i < plant.arcs; i++) {
                int target = plant.to[i];
                int second = Math.min(times[plant.from[i]] + plant.delay[i], FAR);
                soonest[target] = Math.min(soonest[target], second);
                latest[target] = Math.max(latest[target], second);
            }
        }

        private boolean settle() {
            boolean changed = false;
            for (int i = 0; i < plant.points; i++) {
                boolean byAll = plant.all[i] && latest[i] != NONE;
                int second = byAll ? latest[i] : soonest[i];
                if (second < times[i]) {
                    times[i] = second;
                    changed = true;
                }
            }
            return changed;
        }

        /** The second at which a window is lit, if it doesn't stick. */
        int windowTime(int window) {
            return Math.min(times[plant.at[window]] + plant.lag[window], FAR);
        }
    }

    /** The windows as they are lit and hidden, with those that stick and the rules that rest. */
    private static final class Lamps {
        final Plant plant;
        final Spread spread;
        final int[] how = new int[MAX_WINDOWS];
        final int[] since = new int[MAX_WINDOWS];
        int resting;

        Lamps(Plant plant, Spread spread) {
            this.plant = plant;
            this.spread = spread;
        }

        void reset() {
            Arrays.fill(how, STICKS_NOT);
            resting = 0;
        }

        void light(int heap) {
            spread.run(heap);
            for (int i = 0; i < plant.windows; i++) {
                if (how[i] == STICKS_NOT) {
                    since[i] = spread.windowTime(i);
                } else {
                    since[i] = how[i] == STICKS_LIT ? 0 : FAR;
                }
            }
        }

        int litAt(int second) {
            int bits = 0;
            for (int i = 0; i < plant.windows; i++) {
                if (since[i] <= second) {
                    bits |= 1 << i;
                }
            }
            return bits;
        }

        int shownOf(int seen, int rulesAtRest) {
            int hidden = 0;
            for (int i = 0; i < plant.rules; i++) {
                boolean holds = hasBit(seen, plant.cause[i])
                    && (plant.unless[i] == NONE || !hasBit(seen, plant.unless[i]));
                if (holds && !hasBit(rulesAtRest, i)) {
                    hidden |= 1 << plant.hides[i];
                }
            }
            return seen & ~hidden;
        }

        /** The least second after that one at which a window gets lit; FAR without. */
        int nextChange(int second) {
            int next = FAR;
            for (int i = 0; i < plant.windows; i++) {
                if (since[i] > second) {
                    next = Math.min(next, since[i]);
                }
            }
            return next;
        }

        int firstOut() {
            int window = NONE;
            int least = FAR;
            for (int i = 0; i < plant.windows; i++) {
                if (how[i] == STICKS_NOT && since[i] < least) {
                    window = i;
                    least = since[i];
                }
            }
            return window;
        }

        int hornsBegun(int length) {
            int begun = 0;
            int second = nextSound(0);
            for (int i = 0; i < plant.windows && second < FAR; i++) {
                begun++;
                second = nextSound(second + length);
            }
            return begun;
        }

        private int nextSound(int fromSecond) {
            int next = FAR;
            for (int i = 0; i < plant.windows; i++) {
                if (how[i] == STICKS_NOT && since[i] >= fromSecond) {
                    next = Math.min(next, since[i]);
                }
            }
            return next;
        }

        int stuckLit() {
            int bits = 0;
            for (int i = 0; i < plant.windows; i++) {
                if (how[i] == STICKS_LIT) {
                    bits |= 1 << i;
                }
            }
            return bits;
        }

        int countStuck() {
            int stuck = 0;
            for (int i = 0; i < plant.windows; i++) {
                if (how[i] != STICKS_NOT) {
                    stuck++;
                }
            }
            return stuck;
        }
    }

    /** The rows of the log. */
    private static final class Rows {
        final int[] windows = new int[MAX_ROWS];
        final int[] seconds = new int[MAX_ROWS];
        int size;

        boolean canAdd(int second) {
            return size < MAX_ROWS && (size == 0 || second >= seconds[size - 1]);
        }

        void add(int window, int second) {
            if (size < MAX_ROWS) {
                windows[size] = window;
                seconds[size] = second;
                size++;
            }
        }

        int countApart(int gap) {
            int apart = 0;
            for (int i = 0; i < size; i++) {
                int ahead = rowAhead(i);
                if (ahead == NONE || seconds[i] - seconds[ahead] >= gap) {
                    apart++;
                }
            }
            return apart;
        }

        private int rowAhead(int row) {
            for (int i = row - 1; i >= 0; i--) {
                if (windows[i] == windows[row]) {
                    return i;
                }
            }
            return NONE;
        }
    }

    /** Looks for the least explanations of the log. */
    private static final class Finder {
        final Plant plant;
        final Spread spread;
        final Rows rows;
        final int[] firstSeconds = new int[MAX_WINDOWS];
        /** From which to which begin each window is right, for the heap that is tried. */
        final int[] low = new int[MAX_WINDOWS];
        final int[] high = new int[MAX_WINDOWS];
        int unlike;
        int last;
        int triedBegin;
        int triedWrong;
        int cost;
        int heap;
        int begin;
        int wrong;
        int heaps;
        int inAll;
        int inSome;
        int alwaysWrong;

        Finder(Plant plant, Spread spread, Rows rows) {
            this.plant = plant;
            this.spread = spread;
            this.rows = rows;
        }

        /**
         * Tries the heaps by the number of their points and then by their bits, so that the first
         * one of a cost is the least. Row k counts with another second (none does for NONE).
         */
        void search(int k, int second) {
            loadRows(k, second);
            cost = FAR;
            tryHeap(0, 0);
            for (int i = 0; i < plant.points; i++) {
                tryHeap(1 << i, 1);
            }
            for (int i = 0; i < plant.points; i++) {
                for (int j = 0; j < i; j++) {
                    tryHeap(1 << i | 1 << j, 2);
                }
            }
            for (int i = 0; i < plant.points; i++) {
                for (int j = 0; j < i; j++) {
                    for (int m = 0; m < j; m++) {
                        tryHeap(1 << i | 1 << j | 1 << m, 3);
                    }
                }
            }
        }

        private void loadRows(int k, int second) {
            Arrays.fill(firstSeconds, NONE);
            last = 0;
            for (int i = 0; i < rows.size; i++) {
                int window = rows.windows[i];
                last = i == k ? second : rows.seconds[i];
                if (firstSeconds[window] == NONE) {
                    firstSeconds[window] = last;
                }
            }
        }

        private void tryHeap(int bits, int size) {
            if (2 * size > cost) {
                return;
            }
            spread.run(bits);
            for (int i = 0; i < plant.windows; i++) {
                setSpan(i, spread.windowTime(i));
            }
            seekBegin();
            int found = 2 * size + Integer.bitCount(triedWrong);
            if (found < cost) {
                takeLeast(bits, found);
            } else if (found == cost) {
                heaps++;
                inAll &= bits;
                inSome |= bits;
                alwaysWrong &= triedWrong;
            }
        }

        private void takeLeast(int bits, int found) {
            cost = found;
            heap = bits;
            begin = triedBegin;
            wrong = triedWrong;
            heaps = 1;
            inAll = bits;
            inSome = bits;
            alwaysWrong = triedWrong;
        }

        private void setSpan(int window, int time) {
            int row = firstSeconds[window];
            if (row == NONE) {
                low[window] = time >= FAR ? -FAR : last - time + 1;
                high[window] = FAR;
            } else if (time >= FAR) {
                low[window] = FAR;
                high[window] = -FAR;
            } else {
                low[window] = row - time - unlike;
                high[window] = row - time + unlike;
            }
        }

        /** A window gets right only where its span begins, so no other begin than these can be the least. */
        private void seekBegin() {
            triedBegin = 0;
            triedWrong = wrongAt(0);
            for (int i = 0; i < plant.windows; i++) {
                if (low[i] > 0 && low[i] <= last) {
                    tryBegin(low[i]);
                }
            }
        }

        private void tryBegin(int second) {
            int bits = wrongAt(second);
            int more = Integer.bitCount(bits) - Integer.bitCount(triedWrong);
            if (more < 0 || more == 0 && second < triedBegin) {
                triedBegin = second;
                triedWrong = bits;
            }
        }

        private int wrongAt(int second) {
            int bits = 0;
            for (int i = 0; i < plant.windows; i++) {
                if (second < low[i] || second > high[i]) {
                    bits |= 1 << i;
                }
            }
            return bits;
        }
    }

    /** The signs of the points, and what the rules lose or make alike of them. */
    private static final class Signs {
        final Plant plant;
        final Lamps lamps;
        final int[] whole = new int[MAX_POINTS];
        final int[] shown = new int[MAX_POINTS];
        int till = 300;

        Signs(Plant plant, Lamps lamps) {
            this.plant = plant;
            this.lamps = lamps;
        }

        void load() {
            for (int i = 0; i < plant.points; i++) {
                lamps.light(1 << i);
                whole[i] = lamps.litAt(till);
            }
        }

        void show(int rulesAtRest) {
            for (int i = 0; i < plant.points; i++) {
                shown[i] = lamps.shownOf(whole[i], rulesAtRest);
            }
        }

        int countLost() {
            int lost = 0;
            for (int i = 0; i < plant.points; i++) {
                if (whole[i] != 0 && shown[i] == 0) {
                    lost++;
                }
            }
            return lost;
        }

        int countAlike() {
            int alike = 0;
            for (int i = 0; i < plant.points; i++) {
                for (int j = 0; j < i; j++) {
                    if (whole[i] != whole[j] && shown[i] == shown[j]) {
                        alike++;
                    }
                }
            }
            return alike;
        }

        /** With all rules at rest nothing is hidden, so one of these sets always does. */
        int rulesToRest() {
            int found = 0;
            int fewest = MAX_RULES + 1;
            for (int bits = 0; bits < 1 << plant.rules; bits++) {
                if ((bits & lamps.resting) == 0 && Integer.bitCount(bits) < fewest && isClear(bits)) {
                    found = bits;
                    fewest = Integer.bitCount(bits);
                }
            }
            return found;
        }

        private boolean isClear(int more) {
            show(lamps.resting | more);
            return countLost() == 0 && countAlike() == 0;
        }
    }

    /** The wall with its places, and a crew that reads it. */
    private static final class Crew {
        /** The board changes at 0 and as each window gets lit. */
        static final int MAX_STAGES = MAX_WINDOWS + 1;

        final Plant plant;
        final Lamps lamps;
        final Signs signs;
        final int[] windowAt = new int[MAX_WINDOWS];
        final int[][] stageStart = new int[MAX_POINTS][MAX_STAGES];
        final int[][] stageShown = new int[MAX_POINTS][MAX_STAGES];
        final int[] stages = new int[MAX_POINTS];
        int stuckLit;
        int lesser;
        int greater;
        int leastSum;

        Crew(Plant plant, Lamps lamps, Signs signs) {
            this.plant = plant;
            this.lamps = lamps;
            this.signs = signs;
        }

        void reset() {
            for (int i = 0; i < MAX_WINDOWS; i++) {
                windowAt[i] = i;
            }
        }

        int placeOf(int window) {
            for (int i = 0; i < plant.windows; i++) {
                if (windowAt[i] == window) {
                    return i;
                }
            }
            return NONE;
        }

        void swap(int one, int other) {
            int window = windowAt[one];
            windowAt[one] = windowAt[other];
            windowAt[other] = window;
        }

        /** What is shown hangs on no place, so it is found once for all walls that are tried. */
        void prepare() {
            signs.load();
            stuckLit = lamps.stuckLit();
            for (int i = 0; i < plant.points; i++) {
                lamps.light(1 << i);
                setStages(i);
            }
        }

        private void setStages(int point) {
            int found = 0;
            int second = 0;
            while (found < MAX_STAGES && second < FAR) {
                stageStart[point][found] = second;
                stageShown[point][found] = lamps.shownOf(lamps.litAt(second), lamps.resting);
                found++;
                second = lamps.nextChange(second);
            }
            stages[point] = found;
        }

        /** Each step reads a window or waits for the next stage: so many steps do. */
        int tell(int point, int pace) {
            int second = 0;
            int stage = 0;
            int read = 0;
            for (int step = 0; step < MAX_WINDOWS + MAX_STAGES; step++) {
                stage = stageBy(point, stage, second);
                int open = stageShown[point][stage] & ~read;
                if (open != 0) {
                    second += pace;
                    read |= 1 << nearest(open);
                    if (second > signs.till) {
                        return NONE;
                    }
                    if (countMayBe(read & ~stuckLit) == 1) {
                        return second;
                    }
                } else if (stage + 1 < stages[point]) {
                    second = stageStart[point][stage + 1];
                } else {
                    return NONE;
                }
            }
            return NONE;
        }

        private int stageBy(int point, int stage, int second) {
            int now = stage;
            while (now + 1 < stages[point] && stageStart[point][now + 1] <= second) {
                now++;
            }
            return now;
        }

        private int nearest(int open) {
            for (int i = 0; i < plant.windows; i++) {
                if (hasBit(open, windowAt[i])) {
                    return windowAt[i];
                }
            }
            return 0;
        }

        private int countMayBe(int read) {
            int may = 0;
            for (int i = 0; i < plant.points; i++) {
                if ((read & ~signs.whole[i]) == 0) {
                    may++;
                }
            }
            return may;
        }

        int sum(int pace) {
            int total = 0;
            for (int i = 0; i < plant.points; i++) {
                int second = tell(i, pace);
                total += second == NONE ? signs.till : second;
            }
            return total;
        }

        void seekChange(int pace) {
            lesser = NONE;
            greater = NONE;
            leastSum = sum(pace);
            for (int i = 0; i < plant.windows; i++) {
                for (int j = i + 1; j < plant.windows; j++) {
                    swap(i, j);
                    int total = sum(pace);
                    swap(i, j);
                    if (total < leastSum) {
                        lesser = i;
                        greater = j;
                        leastSum = total;
                    }
                }
            }
        }
    }
}
