/**
 * An inn on the moor that turns away whoever it expected. What each call answers is told by the
 * promises of ../shared/DOC.md; the words in capitals there are the words meant here.
 */
public final class InnTurned {
    public static final int NONE = -1, BAD = -2, NO = -3, FULL = -4;

    private static final int KINDS = 6, GUESTS = 7, MOST_ROOMS = 7, ROOMS_AT_FIRST = 3;
    private static final int WETS = 6, WETTEST = 4, MOST_WORD = 9;
    private static final int MOST_VISITS = 99, MOST_WHEELS = 99, MOST_TURNED = 9999;
    private static final int LAST_NIGHT = 9999, NIGHTS_AT_ONCE = 99, MOST_UNDONE = 8;
    private static final int TEXT_BYTES = 150, LAST_BYTE = 127, FAULT_ANSWER = -10;
    private static final int NO_SUCH_NOW = -1000, NO_SUCH_PLACE = -5, BAD_PLACE = -10, NO_SUCH_STATUS = -1;
    private static final int COUNTS = 9, LOOKED_AHEAD = 60, TENTHS = 10;
    private static final int MOST_SEED = 999999, MOST_DECADES = 60;
    private static final int NOTED_NIGHTS = 99, NOTED_VISITS = 9, NOTED_LIKELY = 60;
    private static final int MARKED_WHEELS = 9, MARKED_LEAST = -20, MARKED_MOST = 99;

    /** Columns of a TRAVELLER, numbered as of() tells them; LIKELY is no column, but reckoned. */
    private static final int KIND = 0, WORD = 1, VISITS = 2, IN = 3, LIKELY = 4;

    private final House house = new House(), spare = new House();
    private final House image0 = new House(), image1 = new House();
    private final Script script = new Script();
    private final Lineup lineup = new Lineup();
    private final Wits wits = new Wits();
    private boolean kept0, kept1;
    private int above = 0, below = 1;
    private int bads, nos, fulls;

    public InnTurned() {
    }

    // ---- an inn

    public int inn(int kind, int rooms) {
        if (!isKind(kind) || !within(rooms, 0, MOST_ROOMS)) return bad();
        int were = house.guests.rows;
        house.begin(kind, rooms);
        return were;
    }

    public int landlord(int kind) {
        if (!isKind(kind)) return bad();
        int was = house.host;
        house.host = kind;
        house.past.empty();
        return was;
    }

    public int wet(int n, int x) {
        if (!within(n, 0, WETS - 1) || !within(x, 0, WETTEST)) return bad();
        int was = house.wetOf(n);
        house.setWet(n, x);
        house.past.empty();
        return was;
    }

    public int one(int kind, int word) {
        if (!isKind(kind) || !isWord(word)) return bad();
        if (house.guests.isFull()) return full();
        house.past.empty();
        return house.welcome(kind, word);
    }

    public int type(int c) {
        if (!within(c, 0, LAST_BYTE)) return bad();
        if (script.isFull()) return full();
        script.append(c);
        return script.size;
    }

    public int clear() {
        int had = script.size;
        script.size = 0;
        return had;
    }

    public int read() {
        int items = Telling.build(script, spare);
        if (items > 0) house.copy(spare);
        return items;
    }

    // ---- nights

    public int comes(int i) {
        if (!house.isThere(i)) return bad();
        if (house.isIn(i)) return no();
        house.keep();
        return house.arrive(i) ? 1 : 0;
    }

    public int goes(int i) {
        if (!house.isThere(i)) return bad();
        if (!house.isIn(i)) return no();
        house.keep();
        house.leave(i);
        return house.howManyIn();
    }

    public int letter(int i, int word) {
        if (!house.isThere(i) || !isWord(word)) return bad();
        int was = house.guests.cell(i, WORD);
        if (was == word) return no();
        house.keep();
        house.guests.put(i, WORD, word);
        return was;
    }

    public int nights(int n) {
        if (!within(n, 1, NIGHTS_AT_ONCE)) return bad();
        house.keep();
        house.sleep(n);
        return house.night;
    }

    public int undo() {
        if (house.past.rows == 0) return no();
        house.goBack();
        return house.night;
    }

    public int of(int i, int what) {
        if (!house.isThere(i) || !within(what, KIND, LIKELY)) return bad();
        return what == LIKELY ? house.likelyNow(i) : house.guests.cell(i, what);
    }

    public int now(int what) {
        if (!within(what, 0, 5)) {
            bad();
            return NO_SUCH_NOW;
        }
        return standing(what);
    }

    // ---- who is let in

    public int may() {
        int bits = 0;
        for (int i = 0; i < house.guests.rows; i++) {
            if (!house.isIn(i) && house.opensTo(i, house.wetNow())) bits |= 1 << i;
        }
        return bits;
    }

    public int when(int i) {
        if (!house.isThere(i)) return bad();
        if (house.isIn(i) || !house.hasRoom()) return NONE;
        for (int ahead = 0; ahead <= LOOKED_AHEAD; ahead++) {
            int n = house.night + ahead;
            int lets = house.letsPass(house.wetOf(n), ahead == 0 ? house.wheels : 0);
            if (house.likely(i, house.guests.cell(i, WORD), house.guests.cell(i, VISITS), n) <= lets) return ahead;
        }
        return NONE;
    }

    public int pen(int i) {
        if (!house.isThere(i)) return bad();
        if (house.isIn(i) || !house.hasRoom()) return NONE;
        for (int word = MOST_WORD; word >= 0; word--) {
            if (house.likely(i, word, house.guests.cell(i, VISITS), house.night) <= house.letsNow()) return word;
        }
        return NONE;
    }

    public int order(int k) {
        if (k < NONE) {
            bad();
            return BAD_PLACE;
        }
        lineup.arrange(house);
        if (k == NONE) return lineup.let;
        return k < lineup.length ? lineup.place(k) : NO_SUCH_PLACE;
    }

    // ---- how often one was there

    public int seen(int i, int w, int n, int in) {
        if (!house.isThere(i) || !isWord(w)) return bad();
        if (!within(n, 0, NOTED_NIGHTS) || !within(in, 0, 1)) return bad();
        return written(house.sights, i, w, n, in, 0);
    }

    public int often(int i, int what) {
        if (!house.isThere(i) || !within(what, 0, 2)) return bad();
        int fits = wits.visitsThatFit(house, i);
        if (what == 0) return Integer.bitCount(fits);
        return what == 1 ? Wits.least(fits) : Wits.greatest(fits);
    }

    public int tell(int i) {
        return house.isThere(i) ? wits.bestNight(house, i) : bad();
    }

    public int note(int i, int w, int v, int n, int x) {
        if (!house.isThere(i) || !isWord(w) || !within(v, 0, NOTED_VISITS)) return bad();
        if (!within(n, 0, NOTED_NIGHTS) || !within(x, 0, NOTED_LIKELY)) return bad();
        return written(house.remarks, i, w, v, n, x);
    }

    public int mark(int x, int a, int y) {
        if (!within(x, 0, WETTEST) || !within(a, 0, MARKED_WHEELS)) return bad();
        if (!within(y, MARKED_LEAST, MARKED_MOST)) return bad();
        return written(house.marks, x, a, y, 0, 0);
    }

    public int forget(int what) {
        if (!within(what, 0, 2)) return bad();
        Table table = what == 0 ? house.sights : what == 1 ? house.remarks : house.marks;
        int were = table.rows;
        table.empty();
        return were;
    }

    public int is(int i) {
        return house.isThere(i) ? wits.guestKinds(house, i) : bad();
    }

    public int look(int i) {
        return house.isThere(i) ? wits.bestLook(house, i) : bad();
    }

    public int kinds() {
        return wits.hostKinds(house);
    }

    public int ask() {
        return wits.bestQuestion(house);
    }

    public int door(int i) {
        if (!house.isThere(i)) return bad();
        if (house.isIn(i)) return no();
        return Door.pairsThatRest(house.likelyNow(i) > house.letsNow());
    }

    public int rain(int i, int c) {
        if (!house.isThere(i) || !within(c, 0, TENTHS)) return bad();
        if (house.isIn(i)) return no();
        int chances = 0;
        if (house.opensTo(i, WETTEST)) chances += c;
        if (house.opensTo(i, house.wetNow())) chances += TENTHS - c;
        setTenths(chances);
        return 1;
    }

    public int decades(int seed, int n) {
        if (!within(seed, 0, MOST_SEED) || !within(n, 0, MOST_DECADES)) return bad();
        spare.copy(house);
        long x = seed;
        for (int k = 0; k < n; k++) {
            x = (x * 1103515245L + 12345L) % 2147483648L;
            spare.happen((int) (x / 65536L % 8L));
        }
        return spare.howManyIn();
    }

    // ---- what there is

    public long part(int what) {
        if (!within(what, 0, 1)) return bad();
        return what == 0 ? above : below;
    }

    public int image(int i) {
        if (!within(i, 0, 1)) return bad();
        if (i == 0) {
            image0.copy(house);
            kept0 = true;
        } else {
            image1.copy(house);
            kept1 = true;
        }
        return 1;
    }

    public int from(int i) {
        if (!within(i, 0, 1)) return bad();
        if (i == 0 ? !kept0 : !kept1) return no();
        house.copy(i == 0 ? image0 : image1);
        return 1;
    }

    public int status(int what) {
        switch (what) {
            case 0: return bads;
            case 1: return nos;
            case 2: return fulls;
            default:
                bad();
                return NO_SUCH_STATUS;
        }
    }

    public int count(int what) {
        return within(what, 0, COUNTS - 1) ? counted(what) : bad();
    }

    public long digest() {
        long h = 1709;
        for (int what = 0; what < COUNTS; what++) h = 31 * h + counted(what);
        for (int what = 0; what <= 3; what++) h = 31 * h + standing(what);
        for (int n = 0; n < WETS; n++) h = 31 * h + house.wetOf(n);
        h = house.guests.digestOn(h);
        h = house.sights.digestOn(h);
        h = house.remarks.digestOn(h);
        h = house.marks.digestOn(h);
        h = 31 * h + above;
        return 31 * h + below;
    }

    private int bad() {
        bads++;
        return BAD;
    }

    private int no() {
        nos++;
        return NO;
    }

    private int full() {
        fulls++;
        return FULL;
    }

    private int standing(int what) {
        switch (what) {
            case 0: return house.host;
            case 1: return house.rooms;
            case 2: return house.wheels;
            case 3: return house.turned;
            case 4: return house.letsNow();
            default: return house.wetNow();
        }
    }

    private int counted(int what) {
        switch (what) {
            case 0: return house.guests.rows;
            case 1: return house.howManyIn();
            case 2: return house.night;
            case 3: return house.guests.sum(VISITS);
            case 4: return house.sights.rows;
            case 5: return house.remarks.rows;
            case 6: return house.marks.rows;
            case 7: return house.past.rows;
            default: return script.size;
        }
    }

    /** Writes a row as wide as the table: what stands behind its width is left out. */
    private int written(Table table, int a, int b, int c, int d, int e) {
        if (table.isFull()) return full();
        int row = table.append();
        table.put(row, 0, a);
        table.put(row, 1, b);
        table.put(row, 2, c);
        table.put(row, 3, d);
        table.put(row, 4, e);
        return table.rows;
    }

    private void setTenths(int chances) {
        for (int divisor = TENTHS; divisor >= 1; divisor--) {
            if (chances % divisor == 0 && TENTHS % divisor == 0) {
                above = chances / divisor;
                below = TENTHS / divisor;
                return;
            }
        }
    }

    private static boolean within(int x, int least, int most) {
        return x >= least && x <= most;
    }

    private static boolean isKind(int kind) {
        return within(kind, 0, KINDS - 1);
    }

    private static boolean isWord(int word) {
        return within(word, 0, MOST_WORD);
    }

    /** What the KINDS answer; each is reckoned from the one that it stands under. */
    private static final class Kinds {
        private Kinds() {
        }

        static int likely(int kind, int w, int v, int n) {
            int plain = 2 * w + v;
            int regular = plain + 4;
            int poor = plain / 2;
            switch (kind) {
                case 1: return regular;
                case 2: return poor;
                case 3: return n % 7 == 4 ? regular + 6 : regular;
                case 4: return w == 0 && plain > 3 ? 3 : plain;
                case 5: return v >= 2 ? poor + 9 : poor;
                default: return plain;
            }
        }

        static int letsPass(int kind, int x, int a) {
            int plain = 8 - a;
            int keen = plain - 3;
            int drowsy = plain + x;
            switch (kind) {
                case 1: return keen;
                case 2: return drowsy;
                case 3: return keen - x;
                case 4: return x == WETTEST ? 99 : drowsy;
                case 5: return a == 0 ? 2 * keen : keen;
                default: return plain;
            }
        }
    }

    /** Rows of numbers, made once; every index is looked at here, so that nobody else need. */
    private static final class Table {
        private final int width, most;
        private final int[] cells;
        private int rows;

        Table(int width, int most) {
            this.width = Math.max(width, 0);
            this.most = Math.max(most, 0);
            cells = new int[this.width * this.most];
        }

        boolean isFull() {
            return rows >= most;
        }

        void empty() {
            rows = 0;
        }

        int append() {
            if (isFull()) return NONE;
            int row = rows;
            rows++;
            for (int column = 0; column < width; column++) put(row, column, 0);
            return row;
        }

        void dropFirst() {
            if (rows == 0) return;
            rows--;
            System.arraycopy(cells, width, cells, 0, rows * width);
        }

        void dropLast() {
            if (rows > 0) rows--;
        }

        int cell(int row, int column) {
            if (row < 0 || row >= rows || column < 0 || column >= width) return 0;
            return cells[row * width + column];
        }

        void put(int row, int column, int value) {
            if (row < 0 || row >= rows || column < 0 || column >= width) return;
            cells[row * width + column] = value;
        }

        int sum(int column) {
            int sum = 0;
            for (int row = 0; row < rows; row++) sum += cell(row, column);
            return sum;
        }

        long digestOn(long h) {
            for (int row = 0; row < rows; row++) {
                for (int column = 0; column < width; column++) h = 31 * h + cell(row, column);
            }
            return h;
        }

        void copy(Table other) {
            if (other.cells.length != cells.length) return;
            System.arraycopy(other.cells, 0, cells, 0, cells.length);
            rows = other.rows;
        }
    }

    /** All that an IMAGE keeps: the inn, who is there, what was told of it, what may be undone. */
    private static final class House {
        private static final int PAST_NIGHT = 0, PAST_WHEELS = 1, PAST_TURNED = 2, PAST_GUESTS = 3;
        private static final int PAST_WIDTH = PAST_GUESTS + 3 * GUESTS;

        private final int[] wets = new int[WETS];
        private final Table guests = new Table(4, GUESTS);
        private final Table sights = new Table(4, 5), remarks = new Table(5, 6), marks = new Table(3, 6);
        private final Table past = new Table(PAST_WIDTH, MOST_UNDONE);
        private int host, rooms = ROOMS_AT_FIRST, night, wheels, turned;

        void begin(int kind, int roomsTold) {
            host = kind;
            rooms = roomsTold;
            night = 0;
            wheels = 0;
            turned = 0;
            for (int n = 0; n < WETS; n++) setWet(n, 0);
            guests.empty();
            sights.empty();
            remarks.empty();
            marks.empty();
            past.empty();
        }

        void copy(House other) {
            host = other.host;
            rooms = other.rooms;
            night = other.night;
            wheels = other.wheels;
            turned = other.turned;
            for (int n = 0; n < WETS; n++) setWet(n, other.wetOf(n));
            guests.copy(other.guests);
            sights.copy(other.sights);
            remarks.copy(other.remarks);
            marks.copy(other.marks);
            past.copy(other.past);
        }

        int wetOf(int n) {
            int place = n % WETS;
            return place >= 0 && place < wets.length ? wets[place] : 0;
        }

        void setWet(int n, int x) {
            if (n >= 0 && n < wets.length) wets[n] = x;
        }

        int wetNow() {
            return wetOf(night);
        }

        int welcome(int kind, int word) {
            int i = guests.append();
            guests.put(i, KIND, kind);
            guests.put(i, WORD, word);
            return i;
        }

        boolean isThere(int i) {
            return within(i, 0, guests.rows - 1);
        }

        boolean isIn(int i) {
            return guests.cell(i, IN) == 1;
        }

        int howManyIn() {
            return guests.sum(IN);
        }

        boolean hasRoom() {
            return guests.sum(IN) < rooms;
        }

        int likely(int i, int w, int v, int n) {
            return Kinds.likely(guests.cell(i, KIND), w, v, n);
        }

        int likelyNow(int i) {
            return Kinds.likely(guests.cell(i, KIND), guests.cell(i, WORD), guests.cell(i, VISITS), night);
        }

        int letsPass(int x, int a) {
            return Kinds.letsPass(host, x, a);
        }

        int letsNow() {
            return Kinds.letsPass(host, wetOf(night), wheels);
        }

        /** Whether one would be let IN, coming now, were this NIGHT WET by x. */
        boolean opensTo(int i, int x) {
            return hasRoom() && likelyNow(i) <= Kinds.letsPass(host, x, wheels);
        }

        boolean arrive(int i) {
            boolean opens = opensTo(i, wetNow());
            if (opens) {
                guests.put(i, IN, 1);
                guests.put(i, VISITS, Math.min(MOST_VISITS, guests.cell(i, VISITS) + 1));
            } else {
                turned = Math.min(MOST_TURNED, turned + 1);
            }
            wheels = Math.min(MOST_WHEELS, wheels + 1);
            return opens;
        }

        void leave(int i) {
            guests.put(i, IN, 0);
        }

        void sleep(int n) {
            night = Math.min(LAST_NIGHT, night + n);
            wheels = 0;
        }

        /** What DECADES bring; unlike sleep, for there NIGHTS go beyond the last one. */
        void happen(int i) {
            if (!isThere(i)) {
                night++;
                wheels = 0;
            } else if (isIn(i)) {
                leave(i);
            } else {
                arrive(i);
            }
        }

        void keep() {
            if (past.isFull()) past.dropFirst();
            int row = past.append();
            past.put(row, PAST_NIGHT, night);
            past.put(row, PAST_WHEELS, wheels);
            past.put(row, PAST_TURNED, turned);
            for (int i = 0; i < guests.rows; i++) {
                for (int what = WORD; what <= IN; what++) past.put(row, pastColumn(i, what), guests.cell(i, what));
            }
        }

        void goBack() {
            int row = past.rows - 1;
            if (row < 0) return;
            night = past.cell(row, PAST_NIGHT);
            wheels = past.cell(row, PAST_WHEELS);
            turned = past.cell(row, PAST_TURNED);
            for (int i = 0; i < guests.rows; i++) {
                for (int what = WORD; what <= IN; what++) guests.put(i, what, past.cell(row, pastColumn(i, what)));
            }
            past.dropLast();
        }

        private static int pastColumn(int i, int what) {
            return PAST_GUESTS + 3 * i + what - WORD;
        }
    }

    /**
     * ORDER. WHEELS grow with each who comes, let IN or not, so what he LETS PASS depends only on how
     * many have come; ROOMS only cut the number of those let IN. So sets of who has come are enough,
     * and no order need be tried out.
     */
    private static final class Lineup {
        private static final int SETS = 1 << GUESTS;

        /** By who has come: how many of the others could still be let IN, were there ROOMS for all. */
        private final int[] best = new int[SETS];
        private final int[] likely = new int[GUESTS];
        private final int[] places = new int[GUESTS];
        private int all, length, let;

        void arrange(House house) {
            all = 0;
            for (int i = 0; i < house.guests.rows && i < GUESTS; i++) {
                likely[i] = house.likelyNow(i);
                if (!house.isIn(i)) all |= 1 << i;
            }
            for (int came = SETS - 1; came >= 0; came--) {
                if ((came & ~all) == 0) best[came] = mostBehind(house, came);
            }
            let = Math.min(house.rooms - house.howManyIn(), best[0]);
            choose(house);
        }

        int place(int k) {
            return k >= 0 && k < length && k < GUESTS ? places[k] : NONE;
        }

        private int mostBehind(House house, int came) {
            int lets = letsBehind(house, came);
            int most = 0;
            for (int i = 0; i < GUESTS; i++) {
                if (waits(i, came)) most = Math.max(most, gain(i, came, lets));
            }
            return most;
        }

        private void choose(House house) {
            int came = 0, sure = 0;
            length = 0;
            for (int k = 0; k < GUESTS; k++) {
                int lets = letsBehind(house, came);
                for (int i = 0; i < GUESTS; i++) {
                    if (waits(i, came) && sure + gain(i, came, lets) >= let) {
                        if (likely[i] <= lets) sure++;
                        came |= 1 << i;
                        places[k] = i;
                        length = k + 1;
                        break;
                    }
                }
            }
        }

        private boolean waits(int i, int came) {
            return (all & ~came & (1 << i)) != 0;
        }

        private int letsBehind(House house, int came) {
            int wheels = Math.min(MOST_WHEELS, house.wheels + Integer.bitCount(came));
            return house.letsPass(house.wetNow(), wheels);
        }

        private int gain(int i, int came, int lets) {
            int next = came | 1 << i;
            int later = next >= 0 && next < SETS ? best[next] : 0;
            return i >= 0 && i < GUESTS && likely[i] <= lets ? later + 1 : later;
        }
    }

    /** What fits what was told, and what to try next so that it tells most. */
    private static final class Wits {
        private static final int VISITS_TRIED = 30, NIGHTS_TOLD = 14, NIGHTS_LOOKED = 7;

        private final int[] answers = new int[KINDS];

        /** VISITS as bits 0 to 30. */
        int visitsThatFit(House house, int i) {
            int fits = 0;
            for (int v = 0; v <= VISITS_TRIED; v++) {
                if (fitsSights(house, i, v)) fits |= 1 << v;
            }
            return fits;
        }

        static int least(int fits) {
            for (int v = 0; v <= VISITS_TRIED; v++) {
                if ((fits >> v & 1) == 1) return v;
            }
            return NONE;
        }

        static int greatest(int fits) {
            for (int v = VISITS_TRIED; v >= 0; v--) {
                if ((fits >> v & 1) == 1) return v;
            }
            return NONE;
        }

        int bestNight(House house, int i) {
            int fits = visitsThatFit(house, i);
            int all = Integer.bitCount(fits);
            int best = NONE, least = all + 1;
            if (all == 0) return NONE;
            for (int n = 0; n < NIGHTS_TOLD; n++) {
                for (int w = 0; w <= MOST_WORD; w++) {
                    int let = howManyLetIn(house, i, w, n, fits);
                    int greater = Math.max(let, all - let);
                    if (greater < least) {
                        least = greater;
                        best = 10 * n + w;
                    }
                }
            }
            return best;
        }

        int guestKinds(House house, int i) {
            int kinds = 0;
            for (int kind = 0; kind < KINDS; kind++) {
                if (fitsRemarks(house.remarks, i, kind)) kinds |= 1 << kind;
            }
            return kinds;
        }

        int bestLook(House house, int i) {
            int kinds = guestKinds(house, i);
            int best = NONE, fewest = KINDS + 1;
            if (kinds == 0) return NONE;
            for (int v = 0; v <= NOTED_VISITS; v++) {
                for (int n = 0; n < NIGHTS_LOOKED; n++) {
                    int word = house.guests.cell(i, WORD);
                    for (int kind = 0; kind < KINDS; kind++) answers[kind] = Kinds.likely(kind, word, v, n);
                    int alike = mostAlike(kinds);
                    if (alike < fewest) {
                        fewest = alike;
                        best = 100 * v + n;
                    }
                }
            }
            return best;
        }

        int hostKinds(House house) {
            int kinds = 0;
            for (int kind = 0; kind < KINDS; kind++) {
                if (fitsMarks(house.marks, kind)) kinds |= 1 << kind;
            }
            return kinds;
        }

        int bestQuestion(House house) {
            int kinds = hostKinds(house);
            int best = NONE, fewest = KINDS + 1;
            if (kinds == 0) return NONE;
            for (int x = 0; x <= WETTEST; x++) {
                for (int a = 0; a <= MARKED_WHEELS; a++) {
                    for (int kind = 0; kind < KINDS; kind++) answers[kind] = Kinds.letsPass(kind, x, a);
                    int alike = mostAlike(kinds);
                    if (alike < fewest) {
                        fewest = alike;
                        best = 10 * x + a;
                    }
                }
            }
            return best;
        }

        /** Whether one of v VISITS is let IN, coming first thing, a ROOM being free. */
        private boolean letIn(House house, int i, int w, int v, int n) {
            return house.likely(i, w, v, n) <= house.letsPass(house.wetOf(n), 0);
        }

        private boolean fitsSights(House house, int i, int v) {
            Table sights = house.sights;
            for (int row = 0; row < sights.rows; row++) {
                if (sights.cell(row, 0) != i) continue;
                boolean in = letIn(house, i, sights.cell(row, 1), v, sights.cell(row, 2));
                if (in != (sights.cell(row, 3) == 1)) return false;
            }
            return true;
        }

        private int howManyLetIn(House house, int i, int w, int n, int fits) {
            int let = 0;
            for (int v = 0; v <= VISITS_TRIED; v++) {
                if ((fits >> v & 1) == 1 && letIn(house, i, w, v, n)) let++;
            }
            return let;
        }

        private boolean fitsRemarks(Table remarks, int i, int kind) {
            for (int row = 0; row < remarks.rows; row++) {
                if (remarks.cell(row, 0) != i) continue;
                int w = remarks.cell(row, 1), v = remarks.cell(row, 2), n = remarks.cell(row, 3);
                if (Kinds.likely(kind, w, v, n) != remarks.cell(row, 4)) return false;
            }
            return true;
        }

        private boolean fitsMarks(Table marks, int kind) {
            for (int row = 0; row < marks.rows; row++) {
                int x = marks.cell(row, 0), a = marks.cell(row, 1);
                if (Kinds.letsPass(kind, x, a) != marks.cell(row, 2)) return false;
            }
            return true;
        }

        private int mostAlike(int kinds) {
            int most = 0;
            for (int kind = 0; kind < KINDS; kind++) {
                int alike = 0;
                for (int other = 0; other < KINDS; other++) {
                    boolean both = (kinds >> kind & kinds >> other & 1) == 1;
                    if (both && answers[kind] == answers[other]) alike++;
                }
                most = Math.max(most, alike);
            }
            return most;
        }
    }

    /** DOOR: what one who comes or not, he who listens or not, gets of it. */
    private static final class Door {
        private static final int COMES = 1, LISTENS = 2, PAIRS = 4;

        private Door() {
        }

        static int pairsThatRest(boolean known) {
            int bits = 0;
            for (int pair = 0; pair < PAIRS; pair++) {
                boolean guestRests = toGuest(pair, known) >= toGuest(pair ^ COMES, known);
                boolean hostRests = toHost(pair, known) >= toHost(pair ^ LISTENS, known);
                if (guestRests && hostRests) bits |= 1 << pair;
            }
            return bits;
        }

        private static int toGuest(int pair, boolean known) {
            if ((pair & COMES) == 0) return 0;
            return known && (pair & LISTENS) != 0 ? -3 : 5;
        }

        private static int toHost(int pair, boolean known) {
            boolean caught = known && (pair & COMES) != 0;
            if ((pair & LISTENS) != 0) return caught ? 4 : -2;
            return caught ? -4 : 0;
        }
    }

    /** THE TEXT, and its TOKENS one behind the other. */
    private static final class Script {
        private static final int END = 0, NAME = 1, NUMBER = 2, STOP = 3, NOTHING = 4;

        private final byte[] bytes = new byte[TEXT_BYTES];
        private int size, next;

        /** The TOKEN that was read last: its place, what it is, its number. */
        private int start, token, number;

        boolean isFull() {
            return size >= TEXT_BYTES;
        }

        void append(int c) {
            if (size < 0 || size >= TEXT_BYTES) return;
            bytes[size] = (byte) c;
            size++;
        }

        void rewind() {
            next = 0;
        }

        void advance() {
            while (next < size && at(next) == ' ') next++;
            start = next;
            token = sort(at(start));
            if (token == END) return;
            next++;
            if (token != NAME && token != NUMBER) return;
            while (next < size && sort(at(next)) == token) next++;
            if (token == NUMBER) takeNumber();
        }

        boolean names(String name) {
            if (token != NAME || next - start != name.length()) return false;
            for (int k = 0; k < name.length(); k++) {
                if (at(start + k) != name.charAt(k)) return false;
            }
            return true;
        }

        /** A run of three figures or more is no number, however small it would be. */
        private void takeNumber() {
            int figures = next - start;
            if (figures > 2) token = NOTHING;
            number = at(start) - '0';
            if (figures == 2) number = 10 * number + at(start + 1) - '0';
        }

        private int at(int place) {
            return place >= 0 && place < size && place < TEXT_BYTES ? bytes[place] : NONE;
        }

        /** What a TOKEN is that begins with c; a blank begins none. */
        private static int sort(int c) {
            if (c == NONE) return END;
            if (c >= 'a' && c <= 'z') return NAME;
            if (c >= '0' && c <= '9') return NUMBER;
            return c == ';' ? STOP : NOTHING;
        }
    }

    /** Builds the INN that THE TEXT tells in a house kept for it, so that at a FAULT all stays. */
    private static final class Telling {
        private Telling() {
        }

        /** How many ITEMS. A TOKEN that can not stand is always the last one read: there is the FAULT. */
        static int build(Script script, House site) {
            script.rewind();
            boolean stands = opening(script, site);
            for (int items = 1; stands && items <= TEXT_BYTES; items++) {
                script.advance();
                if (script.token == Script.END) return items;
                if (script.names("wet")) stands = wetItem(script, site);
                else if (script.names("one")) stands = guestItem(script, site);
                else if (script.names("come")) stands = comeItem(script, site);
                else if (script.names("go")) stands = goItem(script, site);
                else if (script.names("letter")) stands = letterItem(script, site);
                else stands = script.names("nights") && nightsItem(script, site);
            }
            return FAULT_ANSWER - script.start;
        }

        private static boolean opening(Script script, House site) {
            script.advance();
            if (!script.names("inn")) return false;
            int kind = numberWithin(script, 0, KINDS - 1);
            if (kind < 0) return false;
            int rooms = numberWithin(script, 0, MOST_ROOMS);
            if (rooms < 0) return false;
            site.begin(kind, rooms);
            return stops(script);
        }

        private static boolean wetItem(Script script, House site) {
            for (int n = 0; n < WETS; n++) {
                script.advance();
                if (n > 0 && script.token == Script.STOP) return true;
                if (!isNumberWithin(script, 0, WETTEST)) return false;
                site.setWet(n, script.number);
            }
            return stops(script);
        }

        private static boolean guestItem(Script script, House site) {
            if (site.guests.isFull()) return false;
            int kind = numberWithin(script, 0, KINDS - 1);
            if (kind < 0) return false;
            int word = numberWithin(script, 0, MOST_WORD);
            if (word < 0) return false;
            site.welcome(kind, word);
            return stops(script);
        }

        private static boolean comeItem(Script script, House site) {
            int i = numberWithin(script, 0, site.guests.rows - 1);
            if (i < 0 || site.isIn(i)) return false;
            site.arrive(i);
            return stops(script);
        }

        private static boolean goItem(Script script, House site) {
            int i = numberWithin(script, 0, site.guests.rows - 1);
            if (i < 0 || !site.isIn(i)) return false;
            site.leave(i);
            return stops(script);
        }

        private static boolean letterItem(Script script, House site) {
            int i = numberWithin(script, 0, site.guests.rows - 1);
            if (i < 0) return false;
            int word = numberWithin(script, 0, MOST_WORD);
            if (word < 0) return false;
            site.guests.put(i, WORD, word);
            return stops(script);
        }

        private static boolean nightsItem(Script script, House site) {
            int n = numberWithin(script, 1, NIGHTS_AT_ONCE);
            if (n < 0) return false;
            site.sleep(n);
            return stops(script);
        }

        private static int numberWithin(Script script, int least, int most) {
            script.advance();
            return isNumberWithin(script, least, most) ? script.number : NONE;
        }

        private static boolean isNumberWithin(Script script, int least, int most) {
            return script.token == Script.NUMBER && within(script.number, least, most);
        }

        private static boolean stops(Script script) {
            script.advance();
            return script.token == Script.STOP;
        }
    }
}
