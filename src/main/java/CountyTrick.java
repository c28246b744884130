/** A county that leads its watchers' looks away: shows draw them, and what is done meanwhile goes unseen. */
public final class CountyTrick {
    public static final int NONE = -1, BAD = -2, NO = -3, FULL = -4;

    private static final int CELLS = 30, COLUMNS = 6, DAY = 12, LAST_STEP = 9999;
    private static final int MOST_SHOWS = 5, MOST_WATCHERS = 6, KINDS = 6;
    private static final int MOST_LOUD = 9, MOST_FAR = 9, MOST_PULL = 40;
    private static final int MOST_UNDONE = 8, MOST_ROWS = 6, ROW_WIDTH = 5;
    private static final int MOST_BYTES = 150, IMAGES = 2;
    private static final int AHEAD = 24, PLAN_CELLS = 4;
    private static final int NOT_SO_MANY = -5, FAULT = -10, PLAN_BAD = -10;

    private final County now = new County();
    private final County[] kept = new County[IMAGES];
    private final boolean[] isKept = new boolean[IMAGES];
    private final Land draft = new Land();
    private final Sight sight = new Sight();
    private final Reader text = new Reader();
    private final Plan course = new Plan();
    private final int[] pulls = new int[KINDS];
    private long above;
    private long below = 1;
    private int refusedBad;
    private int refusedNo;
    private int refusedFull;

    public CountyTrick() {
        for (int i = 0; i < kept.length; i++) {
            kept[i] = new County();
        }
    }

    // ---- a land

    public int land() {
        int were = now.land.watchers;
        now.makeEmpty();
        return were;
    }

    public int show(int kind, int cell, int loud) {
        if (!isKind(kind) || !isCell(cell) || !isLoud(loud)) {
            return refuse(BAD);
        }
        if (now.land.shows >= MOST_SHOWS) {
            return refuse(FULL);
        }
        now.past.size = 0;
        return now.land.addShow(kind, cell, loud);
    }

    public int watcher(int kind, int cell) {
        if (!isKind(kind) || !isCell(cell)) {
            return refuse(BAD);
        }
        if (now.land.watchers >= MOST_WATCHERS) {
            return refuse(FULL);
        }
        now.past.size = 0;
        return now.land.addWatcher(kind, cell);
    }

    public int type(int c) {
        if (!within(c, 0, 127)) {
            return refuse(BAD);
        }
        if (text.length >= MOST_BYTES) {
            return refuse(FULL);
        }
        text.append(c);
        return text.length;
    }

    public int clear() {
        int had = text.length;
        text.length = 0;
        return had;
    }

    public int read() {
        int items = text.readInto(draft, sight);
        if (items < 0) {
            return items;
        }
        now.makeEmpty();
        now.land.copyOf(draft);
        return items;
    }

    // ---- steps

    public int does(int cell) {
        if (!isCell(cell)) {
            return refuse(BAD);
        }
        now.past.push(now.land);
        return sight.doingIn(now.land, cell);
    }

    public int rest(int n) {
        if (!within(n, 1, 99)) {
            return refuse(BAD);
        }
        now.past.push(now.land);
        now.land.pass(n);
        return now.land.step;
    }

    public int moves(int s, int cell) {
        if (!now.land.hasShow(s) || !isCell(cell)) {
            return refuse(BAD);
        }
        now.past.push(now.land);
        int was = now.land.showCell[s];
        now.land.showCell[s] = cell;
        return was;
    }

    public int turns(int s, int on) {
        if (!now.land.hasShow(s) || !within(on, 0, 1)) {
            return refuse(BAD);
        }
        now.past.push(now.land);
        int was = now.land.showOn[s];
        now.land.showOn[s] = on;
        return was;
    }

    public int sends(int w, int cell) {
        if (!now.land.hasWatcher(w) || !isCell(cell)) {
            return refuse(BAD);
        }
        now.past.push(now.land);
        int was = now.land.watcherCell[w];
        now.land.watcherCell[w] = cell;
        return was;
    }

    public int undo() {
        if (now.past.size == 0) {
            return refuse(NO);
        }
        now.past.popInto(now.land);
        return now.land.step;
    }

    public int of(int s, int what) {
        if (!now.land.hasShow(s) || !within(what, 0, 3)) {
            return refuse(BAD);
        }
        return now.land.showPart(s, what);
    }

    public int about(int w, int what) {
        if (!now.land.hasWatcher(w) || !within(what, 0, 2)) {
            return refuse(BAD);
        }
        return now.land.watcherPart(w, what);
    }

    // ---- who sees

    public int pull(int s, int w) {
        if (!now.land.hasShow(s) || !now.land.hasWatcher(w)) {
            return refuse(BAD);
        }
        return now.land.pullAt(s, now.land.watcherCell[w], now.land.dayStep(0));
    }

    public int drawn(int w, int what) {
        if (!now.land.hasWatcher(w) || !within(what, 0, 1)) {
            return refuse(BAD);
        }
        int on = now.land.onBits();
        int cell = now.land.watcherCell[w];
        int t = now.land.dayStep(0);
        if (what == 0) {
            return now.land.strongest(on, cell, t);
        }
        return Kinds.drawnBy(now.land.watcherKind[w], now.land.greatestPull(on, cell, t));
    }

    public int sees(int w, int cell) {
        if (w != NONE && !now.land.hasWatcher(w) || !isCell(cell)) {
            return refuse(BAD);
        }
        int who = sight.whoSees(now.land, cell, now.land.dayStep(0));
        return w == NONE ? who : who >> w & 1;
    }

    public int unseen(int t) {
        if (!isDayStep(t)) {
            return refuse(BAD);
        }
        sight.gauge(now.land, now.land.onBits(), t);
        int cells = 0;
        for (int cell = 0; cell < CELLS; cell++) {
            if (sight.witnesses(now.land, cell) == 0) {
                cells |= 1 << cell;
            }
        }
        return cells;
    }

    public int when(int cell) {
        if (!isCell(cell)) {
            return refuse(BAD);
        }
        int open = sight.openSteps(now.land, cell);
        return open == 0 ? NONE : Integer.numberOfTrailingZeros(open);
    }

    public int enough(int cell) {
        if (!isCell(cell)) {
            return refuse(BAD);
        }
        int best = NONE;
        int fewest = MOST_SHOWS + 1;
        int t = now.land.dayStep(0);
        for (int bits = 0; bits < 1 << now.land.shows; bits++) {
            if (Integer.bitCount(bits) >= fewest) {
                continue;
            }
            sight.gauge(now.land, bits, t);
            if (sight.witnesses(now.land, cell) == 0) {
                best = bits;
                fewest = Integer.bitCount(bits);
            }
        }
        return best;
    }

    public int place(int s, int cell, int what) {
        if (!now.land.hasShow(s) || !isCell(cell) || !within(what, 0, 1)) {
            return refuse(BAD);
        }
        int best = NONE;
        int fewest = MOST_WATCHERS + 1;
        for (int at = 0; at < CELLS; at++) {
            int many = Integer.bitCount(sight.whoSeesWithShowAt(now.land, cell, s, at));
            if (many < fewest) {
                fewest = many;
                best = at;
            }
        }
        return what == 0 ? best : fewest;
    }

    public int plan(int cells, int i) {
        int many = planCells(cells);
        if (many == 0 || i < NONE) {
            refuse(BAD);
            return PLAN_BAD;
        }
        course.cells = many;
        int left = cells;
        for (int last = many - 1; last >= 0; last--) {
            course.openAt(last, sight.openSteps(now.land, left % 100 - 11));
            left /= 100;
        }
        int last = course.soonestLast();
        if (last == NONE) {
            return NONE;
        }
        if (i == NONE) {
            return last + 1;
        }
        return i < many ? course.stepOf(i, last) : NOT_SO_MANY;
    }

    public int guard(int w, int what) {
        if (!now.land.hasWatcher(w) || !within(what, 0, 1)) {
            return refuse(BAD);
        }
        int best = NONE;
        int most = -1;
        for (int at = 0; at < CELLS; at++) {
            int many = cellsSeenFrom(w, at);
            if (many > most) {
                most = many;
                best = at;
            }
        }
        return what == 0 ? best : most;
    }

    // ---- what was done

    public int saw(int t, int who) {
        if (!isDayStep(t) || !within(who, 0, (1 << now.land.watchers) - 1)) {
            return refuse(BAD);
        }
        if (now.saws.size >= MOST_ROWS) {
            return refuse(FULL);
        }
        return now.saws.add(t, who, 0, 0, 0);
    }

    public int where() {
        int cells = (1 << CELLS) - 1;
        for (int i = 0; i < now.saws.size; i++) {
            sight.gauge(now.land, now.land.onBits(), now.saws.told(i, 0));
            for (int cell = 0; cell < CELLS; cell++) {
                if (sight.witnesses(now.land, cell) != now.saws.told(i, 1)) {
                    cells &= ~(1 << cell);
                }
            }
        }
        return cells;
    }

    public int note(int s, int l, int f, int t, int x) {
        if (!now.land.hasShow(s) || !isLoud(l) || !isFar(f) || !isDayStep(t) || !isPull(x)) {
            return refuse(BAD);
        }
        if (now.notes.size >= MOST_ROWS) {
            return refuse(FULL);
        }
        return now.notes.add(s, l, f, t, x);
    }

    public int mark(int w, int f, int p, int saw) {
        if (!now.land.hasWatcher(w) || !isFar(f) || !isPull(p) || !within(saw, 0, 1)) {
            return refuse(BAD);
        }
        if (now.marks.size >= MOST_ROWS) {
            return refuse(FULL);
        }
        return now.marks.add(w, f, p, saw, 0);
    }

    public int forget(int what) {
        if (!within(what, 0, 2)) {
            return refuse(BAD);
        }
        Sheet sheet = what == 0 ? now.saws : what == 1 ? now.notes : now.marks;
        int had = sheet.size;
        sheet.size = 0;
        return had;
    }

    public int is(int s) {
        return now.land.hasShow(s) ? showKindsLeft(s) : refuse(BAD);
    }

    public int look(int s) {
        if (!now.land.hasShow(s)) {
            return refuse(BAD);
        }
        int kinds = showKindsLeft(s);
        int best = NONE;
        int fewest = KINDS + 1;
        for (int t = 0; kinds != 0 && t < DAY; t++) {
            for (int f = 0; f <= MOST_FAR; f++) {
                int most = mostAlike(kinds, now.land.showLoud[s], f, t);
                if (most < fewest) {
                    fewest = most;
                    best = 100 * t + f;
                }
            }
        }
        return best;
    }

    public int what(int w) {
        return now.land.hasWatcher(w) ? watcherKindsLeft(w) : refuse(BAD);
    }

    public int tries(int w) {
        if (!now.land.hasWatcher(w)) {
            return refuse(BAD);
        }
        int kinds = watcherKindsLeft(w);
        int best = NONE;
        int fewest = KINDS + 1;
        for (int f = 0; kinds != 0 && f <= MOST_FAR; f++) {
            for (int p = 0; p <= MOST_PULL; p++) {
                int most = greaterPart(kinds, f, p);
                if (most < fewest) {
                    fewest = most;
                    best = 100 * f + p;
                }
            }
        }
        return best;
    }

    public int game(int w, int a, int b) {
        if (!now.land.hasWatcher(w) || !isCell(a) || !isCell(b) || a == b) {
            return refuse(BAD);
        }
        int rests = 0;
        for (int pair = 0; pair < 4; pair++) {
            int done = (pair & 1) == 0 ? a : b;
            int stands = (pair & 2) == 0 ? a : b;
            int otherDone = a + b - done;
            int otherStands = a + b - stands;
            boolean seen = seesStanding(w, stands, done);
            boolean countyGains = seen && !seesStanding(w, stands, otherDone);
            boolean watcherGains = !seen && seesStanding(w, otherStands, done);
            if (!countyGains && !watcherGains) {
                rests |= 1 << pair;
            }
        }
        return rests;
    }

    public int fails(int cell, int c) {
        if (!isCell(cell) || !within(c, 0, 10)) {
            return refuse(BAD);
        }
        int on = now.land.onBits();
        long sum = 0;
        for (int bits = 0; bits < 1 << MOST_SHOWS; bits++) {
            if ((bits & ~on) == 0) {
                sight.gauge(now.land, bits, now.land.dayStep(0));
                int see = Integer.bitCount(sight.witnesses(now.land, cell));
                sum += see * oddsOf(on, bits, c);
            }
        }
        keepFraction(sum, power(10, Integer.bitCount(on)));
        return 1;
    }

    public int years(int seed, int n) {
        if (!within(seed, 0, 999999) || !within(n, 0, 60)) {
            return refuse(BAD);
        }
        long x = seed;
        int seen = 0;
        for (int i = 0; i < n; i++) {
            x = (x * 1103515245L + 12345L) % 2147483648L;
            int cell = (int) (x / 65536L % CELLS);
            seen += Integer.bitCount(sight.whoSees(now.land, cell, now.land.dayStep(i)));
        }
        return seen;
    }

    // ---- what there is

    public long part(int what) {
        if (!within(what, 0, 1)) {
            return refuse(BAD);
        }
        return what == 0 ? above : below;
    }

    public int image(int i) {
        if (!isImage(i)) {
            return refuse(BAD);
        }
        kept[i].copyOf(now);
        isKept[i] = true;
        return 1;
    }

    public int from(int i) {
        if (!isImage(i)) {
            return refuse(BAD);
        }
        if (!isKept[i]) {
            return refuse(NO);
        }
        now.copyOf(kept[i]);
        return 1;
    }

    public int status(int what) {
        switch (what) {
            case 0:
                return refusedBad;
            case 1:
                return refusedNo;
            case 2:
                return refusedFull;
            default:
                refuse(BAD);
                return NONE;
        }
    }

    public int count(int what) {
        return within(what, 0, 10) ? tally(what) : refuse(BAD);
    }

    public long digest() {
        long h = 1487;
        for (int what = 0; what <= 10; what++) {
            h = 31 * h + tally(what);
        }
        for (int s = 0; s < now.land.shows; s++) {
            for (int part = 0; part <= 3; part++) {
                h = 31 * h + now.land.showPart(s, part);
            }
        }
        for (int w = 0; w < now.land.watchers; w++) {
            for (int part = 0; part <= 2; part++) {
                h = 31 * h + now.land.watcherPart(w, part);
            }
        }
        h = now.saws.mixInto(h, 2);
        h = now.notes.mixInto(h, 5);
        h = now.marks.mixInto(h, 4);
        return 31 * (31 * h + above) + below;
    }

    // ---- what the calls share

    private static boolean within(int n, int least, int most) {
        return n >= least && n <= most;
    }

    private static boolean isKind(int n) {
        return within(n, 0, KINDS - 1);
    }

    private static boolean isCell(int n) {
        return within(n, 0, CELLS - 1);
    }

    private static boolean isLoud(int n) {
        return within(n, 1, MOST_LOUD);
    }

    private static boolean isDayStep(int n) {
        return within(n, 0, DAY - 1);
    }

    private static boolean isFar(int n) {
        return within(n, 0, MOST_FAR);
    }

    private static boolean isPull(int n) {
        return within(n, 0, MOST_PULL);
    }

    private boolean isImage(int i) {
        return i >= 0 && i < kept.length && i < isKept.length && kept[i] != null;
    }

    private int refuse(int answer) {
        if (answer == BAD) {
            refusedBad++;
        } else if (answer == NO) {
            refusedNo++;
        } else {
            refusedFull++;
        }
        return answer;
    }

    private static int far(int a, int b) {
        return Math.abs(a / COLUMNS - b / COLUMNS) + Math.abs(a % COLUMNS - b % COLUMNS);
    }

    /** How many cells the number tells; 0, if it is none that tells cells. */
    private static int planCells(int cells) {
        int left = cells;
        for (int many = 1; many <= PLAN_CELLS; many++) {
            if (!within(left % 100, 11, CELLS + 10)) {
                return 0;
            }
            left /= 100;
            if (left == 0) {
                return many;
            }
        }
        return 0;
    }

    private boolean seesStanding(int w, int stands, int cell) {
        int pull = now.land.greatestPull(now.land.onBits(), stands, now.land.dayStep(0));
        return Kinds.seesBy(now.land.watcherKind[w], far(stands, cell), pull);
    }

    private int cellsSeenFrom(int w, int at) {
        int kind = now.land.watcherKind[w];
        int pull = now.land.greatestPull(now.land.onBits(), at, now.land.dayStep(0));
        int many = 0;
        for (int cell = 0; cell < CELLS; cell++) {
            if (Kinds.seesBy(kind, far(at, cell), pull)) {
                many++;
            }
        }
        return many;
    }

    private int showKindsLeft(int s) {
        Sheet notes = now.notes;
        int kinds = (1 << KINDS) - 1;
        for (int i = 0; i < notes.size; i++) {
            for (int kind = 0; notes.told(i, 0) == s && kind < KINDS; kind++) {
                int x = Kinds.pullBy(kind, notes.told(i, 1), notes.told(i, 2), notes.told(i, 3));
                if (x != notes.told(i, 4)) {
                    kinds &= ~(1 << kind);
                }
            }
        }
        return kinds;
    }

    private int watcherKindsLeft(int w) {
        Sheet marks = now.marks;
        int kinds = (1 << KINDS) - 1;
        for (int i = 0; i < marks.size; i++) {
            for (int kind = 0; marks.told(i, 0) == w && kind < KINDS; kind++) {
                boolean seen = Kinds.seesBy(kind, marks.told(i, 1), marks.told(i, 2));
                if (seen != (marks.told(i, 3) == 1)) {
                    kinds &= ~(1 << kind);
                }
            }
        }
        return kinds;
    }

    /** How many of the kinds (bits) are in the largest group that pulls alike. */
    private int mostAlike(int kinds, int loud, int f, int t) {
        for (int kind = 0; kind < KINDS; kind++) {
            pulls[kind] = Kinds.pullBy(kind, loud, f, t);
        }
        int most = 0;
        for (int kind = 0; kind < KINDS; kind++) {
            int alike = 0;
            for (int other = 0; other < KINDS; other++) {
                if ((kinds >> kind & kinds >> other & 1) == 1 && pulls[kind] == pulls[other]) {
                    alike++;
                }
            }
            most = Math.max(most, alike);
        }
        return most;
    }

    private static int greaterPart(int kinds, int f, int p) {
        int see = 0;
        for (int kind = 0; kind < KINDS; kind++) {
            if ((kinds >> kind & 1) == 1 && Kinds.seesBy(kind, f, p)) {
                see++;
            }
        }
        return Math.max(see, Integer.bitCount(kinds) - see);
    }

    private static long power(long base, int times) {
        long product = 1;
        for (int i = 0; i < times; i++) {
            product *= base;
        }
        return product;
    }

    /** By how many of all cases just these shows (bits) stay, of those that are on, when each fails by c of 10. */
    private static long oddsOf(int on, int stay, int c) {
        int staying = Integer.bitCount(stay);
        return power(10 - c, staying) * power(c, Integer.bitCount(on) - staying);
    }

    private void keepFraction(long sum, long cases) {
        long a = sum;
        long b = cases;
        for (int i = 0; i < 100 && a != 0; i++) {
            long left = b % a;
            b = a;
            a = left;
        }
        if (b > 0) {
            above = sum / b;
            below = cases / b;
        }
    }

    private int tally(int what) {
        switch (what) {
            case 0:
                return now.land.shows;
            case 1:
                return now.land.watchers;
            case 2:
                return now.land.step;
            case 3:
                return now.land.done;
            case 4:
                return Integer.bitCount(now.land.onBits());
            case 5:
                return now.land.knownTogether();
            case 6:
                return now.saws.size;
            case 7:
                return now.notes.size;
            case 8:
                return now.marks.size;
            case 9:
                return now.past.size;
            default:
                return text.length;
        }
    }

    /** What the kinds of shows and of watchers do, each by the kind that it is under. */
    private static final class Kinds {
        static int pullBy(int kind, int loud, int f, int t) {
            int plain = Math.max(0, 2 * loud - f);
            int band = t % 2 == 0 ? plain + 3 : plain;
            int wedding = f > 5 ? 0 : plain;
            int fire = Math.min(30, 2 * band);
            switch (kind) {
                case 1:
                    return band;
                case 2:
                    return wedding;
                case 3:
                    return fire;
                case 4:
                    return t >= 6 ? fire : 0;
                case 5:
                    return wedding >= 1 ? wedding + 1 : wedding;
                default:
                    return plain;
            }
        }

        static int notesBy(int kind, int f) {
            int plain = Math.max(0, 12 - 2 * f);
            switch (kind) {
                case 3:
                    return plain + 4;
                case 5:
                    return (plain + 1) / 2;
                default:
                    return plain;
            }
        }

        static int drawnBy(int kind, int pull) {
            int child = 2 * pull;
            int taught = child + 2;
            switch (kind) {
                case 1:
                    return child;
                case 2:
                    return 0;
                case 4:
                    return taught;
                case 5:
                    return taught / 2;
                default:
                    return pull;
            }
        }

        static boolean seesBy(int kind, int f, int pull) {
            return notesBy(kind, f) > drawnBy(kind, pull);
        }
    }

    /** The shows, the watchers, the step, and how much was done: all that a step can change. */
    private static final class Land {
        int step;
        int done;
        int shows;
        int watchers;
        final int[] showKind = new int[MOST_SHOWS];
        final int[] showCell = new int[MOST_SHOWS];
        final int[] showLoud = new int[MOST_SHOWS];
        final int[] showOn = new int[MOST_SHOWS];
        final int[] watcherKind = new int[MOST_WATCHERS];
        final int[] watcherCell = new int[MOST_WATCHERS];
        final int[] watcherKnows = new int[MOST_WATCHERS];

        void makeEmpty() {
            step = 0;
            done = 0;
            shows = 0;
            watchers = 0;
        }

        void copyOf(Land other) {
            step = other.step;
            done = other.done;
            shows = other.shows;
            watchers = other.watchers;
            for (int s = 0; s < shows; s++) {
                showKind[s] = other.showKind[s];
                showCell[s] = other.showCell[s];
                showLoud[s] = other.showLoud[s];
                showOn[s] = other.showOn[s];
            }
            for (int w = 0; w < watchers; w++) {
                watcherKind[w] = other.watcherKind[w];
                watcherCell[w] = other.watcherCell[w];
                watcherKnows[w] = other.watcherKnows[w];
            }
        }

        boolean hasShow(int s) {
            return s >= 0 && s < shows;
        }

        boolean hasWatcher(int w) {
            return w >= 0 && w < watchers;
        }

        int addShow(int kind, int cell, int loud) {
            if (shows >= MOST_SHOWS) {
                return NONE;
            }
            showKind[shows] = kind;
            showCell[shows] = cell;
            showLoud[shows] = loud;
            showOn[shows] = 1;
            return shows++;
        }

        int addWatcher(int kind, int cell) {
            if (watchers >= MOST_WATCHERS) {
                return NONE;
            }
            watcherKind[watchers] = kind;
            watcherCell[watchers] = cell;
            watcherKnows[watchers] = 0;
            return watchers++;
        }

        int showPart(int s, int what) {
            switch (what) {
                case 0:
                    return showKind[s];
                case 1:
                    return showCell[s];
                case 2:
                    return showLoud[s];
                default:
                    return showOn[s];
            }
        }

        int watcherPart(int w, int what) {
            switch (what) {
                case 0:
                    return watcherKind[w];
                case 1:
                    return watcherCell[w];
                default:
                    return watcherKnows[w];
            }
        }

        int onBits() {
            int bits = 0;
            for (int s = 0; s < shows; s++) {
                bits |= showOn[s] << s;
            }
            return bits;
        }

        int knownTogether() {
            int all = 0;
            for (int w = 0; w < watchers; w++) {
                all += watcherKnows[w];
            }
            return all;
        }

        /** The step of the day, so many steps from now. */
        int dayStep(int ahead) {
            return (step + ahead) % DAY;
        }

        void pass(int n) {
            step = Math.min(LAST_STEP, step + n);
        }

        int pullAt(int s, int cell, int t) {
            return Kinds.pullBy(showKind[s], showLoud[s], far(showCell[s], cell), t);
        }

        /** Which of the shows (bits) pulls most at a cell, the first of like ones; NONE, if none pulls at all. */
        int strongest(int bits, int cell, int t) {
            int best = NONE;
            int most = 0;
            for (int s = 0; s < shows; s++) {
                int pull = (bits >> s & 1) == 1 ? pullAt(s, cell, t) : 0;
                if (pull > most) {
                    most = pull;
                    best = s;
                }
            }
            return best;
        }

        int greatestPull(int bits, int cell, int t) {
            int most = 0;
            for (int s = 0; s < shows; s++) {
                if ((bits >> s & 1) == 1) {
                    int f = far(showCell[s], cell);
                    most = Math.max(most, Kinds.pullBy(showKind[s], showLoud[s], f, t));
                }
            }
            return most;
        }
    }

    /** Who sees what. How far each watcher is drawn hangs on the step alone, so it is gauged once for many cells. */
    private static final class Sight {
        final int[] greatest = new int[MOST_WATCHERS];

        /** Takes in how the shows (bits) pull at each watcher on a step of the day. */
        void gauge(Land land, int bits, int t) {
            for (int w = 0; w < land.watchers; w++) {
                greatest[w] = land.greatestPull(bits, land.watcherCell[w], t);
            }
        }

        /** Who would see a doing in a cell, as last gauged. */
        int witnesses(Land land, int cell) {
            int who = 0;
            for (int w = 0; w < land.watchers; w++) {
                if (Kinds.seesBy(land.watcherKind[w], far(land.watcherCell[w], cell), greatest[w])) {
                    who |= 1 << w;
                }
            }
            return who;
        }

        int whoSees(Land land, int cell, int t) {
            gauge(land, land.onBits(), t);
            return witnesses(land, cell);
        }

        /** Who would see a doing in a cell now, were the show on, and in the cell at. */
        int whoSeesWithShowAt(Land land, int cell, int s, int at) {
            int t = land.dayStep(0);
            gauge(land, land.onBits() & ~(1 << s), t);
            for (int w = 0; w < land.watchers; w++) {
                int f = far(at, land.watcherCell[w]);
                int pull = Kinds.pullBy(land.showKind[s], land.showLoud[s], f, t);
                greatest[w] = Math.max(greatest[w], pull);
            }
            return witnesses(land, cell);
        }

        /** The steps from now (bits) on which nobody would see a doing in a cell. */
        int openSteps(Land land, int cell) {
            int open = 0;
            for (int i = 0; i < AHEAD; i++) {
                if (whoSees(land, cell, land.dayStep(i)) == 0) {
                    open |= 1 << i;
                }
            }
            return open;
        }

        int doingIn(Land land, int cell) {
            gauge(land, land.onBits(), land.dayStep(0));
            int who = witnesses(land, cell);
            for (int w = 0; w < land.watchers; w++) {
                land.watcherKnows[w] += who >> w & 1;
            }
            land.done++;
            land.pass(1);
            return who;
        }
    }

    /** The land as it was ahead of each of the last steps, the newest behind. */
    private static final class Past {
        final Land[] lands = new Land[MOST_UNDONE];
        int size;

        Past() {
            for (int i = 0; i < lands.length; i++) {
                lands[i] = new Land();
            }
        }

        void push(Land land) {
            if (size >= lands.length) {
                dropOldest();
            }
            keepAt(size, land);
            size++;
        }

        private void dropOldest() {
            Land oldest = lands[0];
            for (int i = 1; i < lands.length; i++) {
                lands[i - 1] = lands[i];
            }
            lands[lands.length - 1] = oldest;
            size = lands.length - 1;
        }

        private void keepAt(int i, Land land) {
            if (i >= 0 && i < lands.length && lands[i] != null) {
                lands[i].copyOf(land);
            }
        }

        void popInto(Land land) {
            if (size > 0 && size <= lands.length && lands[size - 1] != null) {
                size--;
                land.copyOf(lands[size]);
            }
        }

        void copyOf(Past other) {
            size = other.size;
            for (int i = 0; i < size && i < other.lands.length; i++) {
                keepAt(i, other.lands[i]);
            }
        }
    }

    /** Rows of told numbers, as they come: what was seen, notes, marks. */
    private static final class Sheet {
        final int[] numbers = new int[MOST_ROWS * ROW_WIDTH];
        int size;

        /** Adds a row, and answers how many there are. */
        int add(int a, int b, int c, int d, int e) {
            if (size < MOST_ROWS) {
                int at = size * ROW_WIDTH;
                numbers[at] = a;
                numbers[at + 1] = b;
                numbers[at + 2] = c;
                numbers[at + 3] = d;
                numbers[at + 4] = e;
                size++;
            }
            return size;
        }

        int told(int row, int column) {
            int at = row * ROW_WIDTH + column;
            return at >= 0 && at < numbers.length ? numbers[at] : 0;
        }

        void copyOf(Sheet other) {
            size = other.size;
            for (int i = 0; i < numbers.length; i++) {
                numbers[i] = other.numbers[i];
            }
        }

        long mixInto(long digest, int columns) {
            long h = digest;
            for (int row = 0; row < size; row++) {
                for (int column = 0; column < columns; column++) {
                    h = 31 * h + told(row, column);
                }
            }
            return h;
        }
    }

    /** All that an image keeps. */
    private static final class County {
        final Land land = new Land();
        final Past past = new Past();
        final Sheet saws = new Sheet();
        final Sheet notes = new Sheet();
        final Sheet marks = new Sheet();

        void makeEmpty() {
            land.makeEmpty();
            past.size = 0;
            saws.size = 0;
            notes.size = 0;
            marks.size = 0;
        }

        void copyOf(County other) {
            land.copyOf(other.land);
            past.copyOf(other.past);
            saws.copyOf(other.saws);
            notes.copyOf(other.notes);
            marks.copyOf(other.marks);
        }
    }

    /** Gives cells unlike steps, each out of those that are open for it. */
    private static final class Plan {
        final int[] open = new int[PLAN_CELLS];
        int cells;

        void openAt(int cell, int steps) {
            if (cell >= 0 && cell < open.length) {
                open[cell] = steps;
            }
        }

        /** The soonest last step of all ways; NONE, if there is no way. */
        int soonestLast() {
            for (int last = 0; last < AHEAD; last++) {
                if (canFill(0, upTo(last))) {
                    return last;
                }
            }
            return NONE;
        }

        /** The step of a cell in the first way that ends by the last step. */
        int stepOf(int cell, int last) {
            int free = upTo(last);
            int step = NONE;
            for (int i = 0; i <= cell && i < cells; i++) {
                step = firstStep(i, free);
                if (step == NONE) {
                    return NONE;
                }
                free &= ~(1 << step);
            }
            return step;
        }

        private int firstStep(int cell, int free) {
            for (int step = 0; step < AHEAD; step++) {
                if ((open[cell] & free & 1 << step) != 0 && canFill(cell + 1, free & ~(1 << step))) {
                    return step;
                }
            }
            return NONE;
        }

        private static int upTo(int last) {
            return (1 << last + 1) - 1;
        }

        /** Whether the cells from this one on find unlike free steps: just when (Hall) any few of them have as many steps together. */
        private boolean canFill(int first, int free) {
            for (int few = 1; few < 1 << cells; few++) {
                if (Integer.numberOfTrailingZeros(few) >= first && stepsTogether(few, free) < Integer.bitCount(few)) {
                    return false;
                }
            }
            return true;
        }

        private int stepsTogether(int few, int free) {
            int steps = 0;
            for (int i = 0; i < cells; i++) {
                if ((few >> i & 1) == 1) {
                    steps |= open[i] & free;
                }
            }
            return Integer.bitCount(steps);
        }
    }

    /** The text, its tokens one by one, and the land that it tells. */
    private static final class Reader {
        static final int END = 0, WORD = 1, NUMBER = 2, STOP = 3, WRONG = 4;
        static final int LAND = 0, SHOW = 1, OFF = 2, WATCHER = 3, DO = 4, REST = 5;

        final int[] bytes = new int[MOST_BYTES];
        /** Of the item last taken: its word, and the numbers behind it. */
        int word;
        final int[] numbers = new int[3];
        int length;
        int at;
        /** Of the token last read: its sort, where it begins, which word or number it is. */
        int sort;
        int begin;
        int value;

        void append(int c) {
            if (length < MOST_BYTES) {
                bytes[length] = c;
                length++;
            }
        }

        /** Makes a land of the text: how many items it has, or -10 less the fault; the land is worth nothing then. */
        int readInto(Land land, Sight sight) {
            at = 0;
            land.makeEmpty();
            for (int items = 0; items <= length; items++) {
                advance();
                if (sort == END && items > 0) {
                    return items;
                }
                if (!takeItem(items == 0, land)) {
                    break;
                }
                carryOut(land, sight);
            }
            return FAULT - begin;
        }

        private boolean takeItem(boolean isFirst, Land land) {
            if (sort != WORD || !mayStand(value, isFirst, land)) {
                return false;
            }
            word = value;
            for (int i = 0; i < numbersBehind(word) && i < numbers.length; i++) {
                advance();
                if (sort != NUMBER || value < least(word, i) || value > most(word, i, land.shows)) {
                    return false;
                }
                numbers[i] = value;
            }
            advance();
            return sort == STOP;
        }

        private static boolean mayStand(int word, boolean isFirst, Land land) {
            if (isFirst || word == LAND) {
                return isFirst && word == LAND;
            }
            if (word == SHOW) {
                return land.shows < MOST_SHOWS;
            }
            if (word == WATCHER) {
                return land.watchers < MOST_WATCHERS;
            }
            return word != NONE;
        }

        private static int numbersBehind(int word) {
            switch (word) {
                case LAND:
                    return 0;
                case SHOW:
                    return 3;
                case WATCHER:
                    return 2;
                default:
                    return 1;
            }
        }

        private static int least(int word, int i) {
            return word == REST || word == SHOW && i == 2 ? 1 : 0;
        }

        private static int most(int word, int i, int shows) {
            switch (word) {
                case SHOW:
                    return i == 0 ? KINDS - 1 : i == 1 ? CELLS - 1 : MOST_LOUD;
                case WATCHER:
                    return i == 0 ? KINDS - 1 : CELLS - 1;
                case OFF:
                    return shows - 1;
                case DO:
                    return CELLS - 1;
                default:
                    return 99;
            }
        }

        private void carryOut(Land land, Sight sight) {
            switch (word) {
                case SHOW:
                    land.addShow(numbers[0], numbers[1], numbers[2]);
                    break;
                case WATCHER:
                    land.addWatcher(numbers[0], numbers[1]);
                    break;
                case OFF:
                    if (land.hasShow(numbers[0])) {
                        land.showOn[numbers[0]] = 0;
                    }
                    break;
                case DO:
                    sight.doingIn(land, numbers[0]);
                    break;
                case REST:
                    land.pass(numbers[0]);
                    break;
                default:
                    break;
            }
        }

        private int byteAt(int i) {
            return i >= 0 && i < length && i < bytes.length ? bytes[i] : NONE;
        }

        private boolean isLetterAt(int i) {
            return byteAt(i) >= 'a' && byteAt(i) <= 'z';
        }

        private boolean isFigureAt(int i) {
            return byteAt(i) >= '0' && byteAt(i) <= '9';
        }

        private void advance() {
            while (at < length && byteAt(at) == ' ') {
                at++;
            }
            begin = at;
            if (at >= length) {
                sort = END;
            } else if (isLetterAt(at)) {
                sort = WORD;
                at = wordEnd(at);
                value = wordNumber();
            } else if (isFigureAt(at)) {
                takeNumber();
            } else {
                sort = byteAt(at) == ';' ? STOP : WRONG;
                at++;
            }
        }

        private int wordEnd(int start) {
            int end = start;
            while (end < length && isLetterAt(end)) {
                end++;
            }
            return end;
        }

        private void takeNumber() {
            value = 0;
            while (at < length && isFigureAt(at)) {
                value = value * 10 + byteAt(at) - '0';
                at++;
            }
            sort = at - begin <= 2 ? NUMBER : WRONG;
        }

        private int wordNumber() {
            if (isWord("land")) {
                return LAND;
            }
            if (isWord("show")) {
                return SHOW;
            }
            if (isWord("off")) {
                return OFF;
            }
            if (isWord("watcher")) {
                return WATCHER;
            }
            if (isWord("do")) {
                return DO;
            }
            return isWord("rest") ? REST : NONE;
        }

        private boolean isWord(String name) {
            if (at - begin != name.length()) {
                return false;
            }
            for (int i = 0; i < name.length(); i++) {
                if (byteAt(begin + i) != name.charAt(i)) {
                    return false;
                }
            }
            return true;
        }
    }
}
