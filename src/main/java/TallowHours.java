/**
 * An evening told as a text, the candles that burn it again moment by moment, and the guests that
 * want its gifts. README.md says how to use it; the numbers of the promises are the document's.
 */
public final class TallowHours {
    public static final int UNKNOWN = -1, OUTSIDE = -2, STATE = -3, FULL = -4, NONE = -9;

    private static final int MOST_LETTERS = 64;
    private static final int MOST_MOMENTS = 12;
    private static final int MOST_CANDLES = 4;
    private static final int MOST_GUESTS = 4;
    private static final int MOST_INCHES = 6;
    private static final int MOST_WANTED = 6;
    private static final int MOST_ACTS = 16;
    private static final int MOST_SEEN = 6;
    private static final int MOST_ORDERS = 6;
    private static final int SLOTS = 2;
    private static final int LAST_STEP = 20;
    private static final int LAST_START = 6;
    private static final int LONGEST = 30;
    private static final int GIFTS = 4;
    private static final int CORRIDOR = 4;
    private static final int STEP_FIGURE = 4;

    private static final int NEVER_LIT = 0;
    private static final int BURNS = 1;
    private static final int GONE = 2;

    private static final long SEED_FACTOR = 6364136223846793005L;
    private static final long SEED_ADDEND = 1442695040888963407L;

    private static final int[] TENS = {1, 10, 100, 1000, 10000, 100000, 1000000, 10000000, 100000000};
    private static final int[] FACTORIALS = {1, 1, 2, 6, 24};

    private final Text text = new Text();
    private final Burning now = new Burning();
    private final Burning trial = new Burning();
    private final Acts acts = new Acts();
    private final Planner planner = new Planner();
    private final Box box = new Box();
    private final Saw saw = new Saw();
    private final int[] slotCells = new int[SLOTS * Burning.CELLS];
    private final boolean[] slotFilled = new boolean[SLOTS];
    private Party told = new Party();
    private Party draft = new Party();
    private long seedNow = 0L;

    public TallowHours() {
    }

    // ---- the party

    public int write(int letter) {
        if (letter < 0 || letter > 255) {
            return OUTSIDE;
        }
        return text.append(letter);
    }

    public int wipe() {
        return text.clear();
    }

    public int fault() {
        return text.readInto(draft);
    }

    public int party() {
        if (text.readInto(draft) != NONE) {
            return STATE;
        }
        Party before = told;
        told = draft;
        draft = before;
        now.begin(told);
        acts.clear();
        for (int slot = 0; slot < SLOTS; slot++) {
            slotFilled[slot] = false;
        }
        planner.fresh = false;
        return 10 * told.candles + told.guests;
    }

    public int moment(int place) {
        return place >= 0 && place < told.moments ? told.giftAt(place) : NONE;
    }

    public int candle(int candle, int what) {
        if (!told.hasCandle(candle)) {
            return UNKNOWN;
        }
        switch (what) {
            case 0: return now.left[candle] > 0 ? now.place[candle] : NONE;
            case 1: return now.left[candle];
            case 2: return told.price[candle];
            case 3: return now.flame[candle];
            default: return OUTSIDE;
        }
    }

    public int guest(int guest, int what) {
        if (!told.hasGuest(guest)) {
            return UNKNOWN;
        }
        switch (what) {
            case 0: return told.wish[guest];
            case 1: return told.wanted[guest];
            case 2: return told.comes[guest];
            case 3: return told.goes[guest];
            case 4: return now.had[guest];
            case 5: return now.isContent(told, guest) ? 1 : 0;
            default: return OUTSIDE;
        }
    }

    // ---- acts

    public int light(int candle) {
        if (!told.hasCandle(candle)) {
            return UNKNOWN;
        }
        if (now.flame[candle] != NEVER_LIT) {
            return STATE;
        }
        rememberAct();
        now.flame[candle] = BURNS;
        return Integer.bitCount(now.withFlame(told, BURNS));
    }

    public int out(int candle) {
        if (!told.hasCandle(candle)) {
            return UNKNOWN;
        }
        if (now.flame[candle] != BURNS) {
            return STATE;
        }
        rememberAct();
        now.flame[candle] = GONE;
        return now.left[candle];
    }

    public int trim(int candle, int k) {
        if (!told.hasCandle(candle)) {
            return UNKNOWN;
        }
        if (k < 1 || k >= MOST_INCHES) {
            return OUTSIDE;
        }
        if (now.flame[candle] != NEVER_LIT || now.left[candle] <= k) {
            return STATE;
        }
        rememberAct();
        now.place[candle] += k;
        now.left[candle] -= k;
        return now.left[candle];
    }

    public int step() {
        if (now.steps >= LAST_STEP) {
            return STATE;
        }
        rememberAct();
        return now.goBy(told);
    }

    public int undo() {
        if (acts.size == 0) {
            return STATE;
        }
        acts.takeBack(now);
        planner.fresh = false;
        return acts.size;
    }

    private void rememberAct() {
        acts.add(now);
        planner.fresh = false;
    }

    // ---- plans

    public int plan() {
        planner.work(told, now);
        return planner.costForAll();
    }

    public int planOf(int candle) {
        if (!told.hasCandle(candle)) {
            return UNKNOWN;
        }
        planner.work(told, now);
        return planner.costForAll() == NONE ? NONE : planner.chosen[candle];
    }

    public int bars() {
        planner.work(told, now);
        for (int guest = 0; guest < told.guests; guest++) {
            if ((planner.reached >> guest & 1) == 0) {
                return guest;
            }
        }
        return NONE;
    }

    public int share(int guest, boolean upper) {
        if (!told.hasGuest(guest)) {
            return UNKNOWN;
        }
        planner.work(told, now);
        if (planner.costForAll() == NONE) {
            return STATE;
        }
        return fraction(planner.sharesOf(guest), FACTORIALS[told.guests], upper);
    }

    public int table(int candle, int other) {
        if (!told.hasCandle(candle) || !told.hasCandle(other)) {
            return UNKNOWN;
        }
        return candle == other ? OUTSIDE : giftsTogether(candle, other);
    }

    public int pairs() {
        int loose = now.withFlame(told, NEVER_LIT);
        // An odd one sits with nobody: a candle that isn't there, and gives nothing.
        return Integer.bitCount(loose) % 2 == 0 ? mostOfPairs(loose) : mostOfPairs(loose | 1 << MOST_CANDLES);
    }

    public int judge(int n, int row) {
        if (n < 1 || n > 8 || row < 0 || row >= TENS[n]) {
            return OUTSIDE;
        }
        trial.copy(now);
        for (int i = 0; i < n; i++) {
            if (!goesWell(figure(row, n, i))) {
                return i;
            }
        }
        return NONE;
    }

    /** One told thing is done in the trial evening: whether it can be, and a step gives somebody something. */
    private boolean goesWell(int thing) {
        if (thing == STEP_FIGURE) {
            return trial.steps < LAST_STEP && trial.goBy(told) != 0;
        }
        return trial.lightIfCan(told, thing);
    }

    /** Of two or four candles the first sits with each other one; those left, if any, sit together. */
    private int mostOfPairs(int candles) {
        int first = Integer.numberOfTrailingZeros(candles);
        int most = 0;
        for (int other = first + 1; other <= MOST_CANDLES; other++) {
            if ((candles >> other & 1) == 1) {
                int rest = candles & ~(1 << first) & ~(1 << other);
                int restFirst = Integer.numberOfTrailingZeros(rest);
                int restOther = 31 - Integer.numberOfLeadingZeros(rest);
                most = Math.max(most, giftsTogether(first, other) + giftsTogether(restFirst, restOther));
            }
        }
        return most;
    }

    private int giftsTogether(int candle, int other) {
        int sum = 0;
        for (int inch = 0; inch < MOST_INCHES; inch++) {
            sum += Integer.bitCount(now.giftBit(told, candle, inch) | now.giftBit(told, other, inch));
        }
        return sum;
    }

    // ---- stubs, boxes

    public int stub(int k, int row, boolean candles) {
        if (k < 1 || k > 3 || row < 0 || row >= TENS[k]) {
            return OUTSIDE;
        }
        for (int i = 0; i < k; i++) {
            if (figure(row, k, i) > GIFTS) {
                return OUTSIDE;
            }
        }
        return candles ? candlesEndingSo(k, row) : placesEndingSo(k, row);
    }

    private int candlesEndingSo(int k, int row) {
        int bits = 0;
        for (int candle = 0; candle < told.candles; candle++) {
            if (told.inches[candle] >= k && endsSo(told.start[candle] + told.inches[candle], k, row)) {
                bits |= 1 << candle;
            }
        }
        return bits;
    }

    private int placesEndingSo(int k, int row) {
        int places = 0;
        for (int end = k; end <= told.moments; end++) {
            if (endsSo(end, k, row)) {
                places++;
            }
        }
        return places;
    }

    /** Whether the k moments ahead of the place 'end' are those of the row. */
    private boolean endsSo(int end, int k, int row) {
        for (int i = 0; i < k; i++) {
            int shown = figure(row, k, i);
            if (told.giftAt(end - k + i) != (shown == 0 ? CORRIDOR : shown - 1)) {
                return false;
            }
        }
        return true;
    }

    public int see(int moment) {
        if (moment < 0 || moment > CORRIDOR) {
            return OUTSIDE;
        }
        return box.add(moment);
    }

    public int unsee() {
        return box.clear();
    }

    public int from(int l) {
        return l < 1 || l > MOST_INCHES ? OUTSIDE : box.origins(told, l);
    }

    public int next(int l, int moment, boolean upper) {
        if (l < 1 || l > MOST_INCHES || moment < 0 || moment > CORRIDOR) {
            return OUTSIDE;
        }
        int origins = box.origins(told, l);
        if (origins == 0 || box.size >= l) {
            return STATE;
        }
        int likely = 0;
        for (int place = 0; place < told.moments; place++) {
            if ((origins >> place & 1) == 1 && told.giftAt(place + box.size) == moment) {
                likely++;
            }
        }
        return fraction(likely, Integer.bitCount(origins), upper);
    }

    // ---- cut, draughts

    public int cut(int n, int k, int orders) {
        if (n < 1 || n > LONGEST || k < 1 || k > MOST_ORDERS || orders < 0 || orders >= TENS[k]) {
            return OUTSIDE;
        }
        int longest = 0;
        for (int i = 0; i < k; i++) {
            int order = figure(orders, k, i);
            if (order == 0) {
                return OUTSIDE;
            }
            longest = Math.max(longest, order);
        }
        return longest > n ? NONE : saw.fewest(n, k, orders);
    }

    public int draught(int candle, int x, int gift, boolean upper) {
        if (!told.hasCandle(candle)) {
            return UNKNOWN;
        }
        if (x < 0 || x > 10 || gift < 0 || gift >= GIFTS) {
            return OUTSIDE;
        }
        if (now.flame[candle] != NEVER_LIT) {
            return STATE;
        }
        int sum = 0;
        int stillBurns = TENS[MOST_INCHES];
        for (int inch = 0; inch < MOST_INCHES; inch++) {
            // This stays whole: each inch takes one of the six tens that it began with.
            stillBurns = stillBurns / 10 * (10 - x);
            if (now.giftBit(told, candle, inch) == 1 << gift) {
                sum += stillBurns;
            }
        }
        return fraction(sum, TENS[MOST_INCHES], upper);
    }

    public long seed(long v) {
        long before = seedNow;
        seedNow = v;
        return before;
    }

    public int night(int m) {
        if (m < 1 || m > LAST_STEP) {
            return OUTSIDE;
        }
        trial.copy(now);
        for (int i = 0; i < m && trial.steps < LAST_STEP; i++) {
            seedNow = seedNow * SEED_FACTOR + SEED_ADDEND;
            trial.lightIfCan(told, (int) ((seedNow >>> 33) % 4L));
            trial.goBy(told);
        }
        int sum = 0;
        for (int guest = 0; guest < told.guests; guest++) {
            sum += trial.had[guest];
        }
        return sum;
    }

    // ---- slots

    public int keep(int slot) {
        if (slot < 0 || slot >= SLOTS) {
            return UNKNOWN;
        }
        now.saveTo(slotCells, slot * Burning.CELLS);
        slotFilled[slot] = true;
        return now.steps;
    }

    public int again(int slot) {
        if (slot < 0 || slot >= SLOTS) {
            return UNKNOWN;
        }
        if (!slotFilled[slot]) {
            return STATE;
        }
        now.loadFrom(slotCells, slot * Burning.CELLS);
        acts.clear();
        planner.fresh = false;
        return now.steps;
    }

    public int count(int what) {
        switch (what) {
            case 0: return text.length;
            case 1: return told.moments;
            case 2: return told.candles;
            case 3: return told.guests;
            case 4: return now.steps;
            case 5: return now.withFlame(told, BURNS);
            case 6: return now.contentGuests(told);
            case 7: return now.cost;
            case 8: return acts.size;
            case 9: return box.size;
            default: return OUTSIDE;
        }
    }

    /** Figure i of a row that is told in n figures, noughts ahead of it counted. */
    private static int figure(int row, int n, int i) {
        int behind = n - 1 - i;
        return behind < 0 || behind >= TENS.length ? 0 : row / TENS[behind] % 10;
    }

    /** One half of above/below in least terms; above is 0 or more, below 1 or more. */
    private static int fraction(int above, int below, boolean upper) {
        int divisor = below;
        int rest = above;
        for (int i = 0; i < 64 && rest != 0; i++) {
            int left = divisor % rest;
            divisor = rest;
            rest = left;
        }
        if (divisor == 0) {
            return 0;
        }
        return upper ? above / divisor : below / divisor;
    }

    /** What a text tells of an evening, its candles and its guests; no act changes it. */
    static final class Party {
        final int[] evening = new int[MOST_MOMENTS];
        final int[] start = new int[MOST_CANDLES];
        final int[] inches = new int[MOST_CANDLES];
        final int[] price = new int[MOST_CANDLES];
        final int[] wish = new int[MOST_GUESTS];
        final int[] wanted = new int[MOST_GUESTS];
        final int[] comes = new int[MOST_GUESTS];
        final int[] goes = new int[MOST_GUESTS];
        int moments = 0;
        int candles = 0;
        int guests = 0;

        void clear() {
            moments = 0;
            candles = 0;
            guests = 0;
        }

        boolean hasCandle(int candle) {
            return candle >= 0 && candle < candles;
        }

        boolean hasGuest(int guest) {
            return guest >= 0 && guest < guests;
        }

        int giftAt(int place) {
            return place >= 0 && place < moments ? evening[place] : CORRIDOR;
        }
    }

    /** The letters, and how they are read as a party. */
    static final class Text {
        final int[] letters = new int[MOST_LETTERS];
        int length = 0;

        int append(int letter) {
            if (length >= MOST_LETTERS) {
                return FULL;
            }
            letters[length] = letter;
            length++;
            return length;
        }

        int clear() {
            int before = length;
            length = 0;
            return before;
        }

        /** Answers the fault; only where there is none does the party stand whole. */
        int readInto(Party party) {
            party.clear();
            if (letterAt(0) != 'E') {
                return 0;
            }
            int place = 1;
            for (; place < length && momentAt(place) != NONE; place++) {
                if (party.moments >= MOST_MOMENTS) {
                    return place;
                }
                party.evening[party.moments] = momentAt(place);
                party.moments++;
            }
            for (; place < length; place += 5) {
                int wrong = readPart(place, party);
                if (wrong != NONE) {
                    return wrong;
                }
            }
            return NONE;
        }

        // A place that can't be read is the fault's place: a wrong letter's, or THE TEXT's end.
        private int readPart(int place, Party party) {
            int head = letterAt(place);
            if (head == 'C' && party.candles < MOST_CANDLES && party.moments > 0) {
                return readCandle(place, party);
            }
            if (head == 'G' && party.guests < MOST_GUESTS) {
                return readGuest(place, party);
            }
            return place;
        }

        private int readCandle(int place, Party party) {
            int lastPlace = party.moments - 1;
            int tens = figureAt(place + 1, 0, lastPlace / 10);
            if (tens == NONE) {
                return place + 1;
            }
            int ones = figureAt(place + 2, 0, lastPlace - 10 * tens);
            if (ones == NONE) {
                return place + 2;
            }
            int start = 10 * tens + ones;
            int inches = figureAt(place + 3, 1, Math.min(MOST_INCHES, party.moments - start));
            if (inches == NONE) {
                return place + 3;
            }
            int price = figureAt(place + 4, 1, 9);
            if (price == NONE) {
                return place + 4;
            }
            party.start[party.candles] = start;
            party.inches[party.candles] = inches;
            party.price[party.candles] = price;
            party.candles++;
            return NONE;
        }

        private int readGuest(int place, Party party) {
            int wish = momentAt(place + 1);
            if (wish == NONE || wish == CORRIDOR) {
                return place + 1;
            }
            int wanted = figureAt(place + 2, 1, MOST_WANTED);
            if (wanted == NONE) {
                return place + 2;
            }
            int comes = figureAt(place + 3, 0, 9);
            if (comes == NONE) {
                return place + 3;
            }
            int goes = figureAt(place + 4, comes, 9);
            if (goes == NONE) {
                return place + 4;
            }
            party.wish[party.guests] = wish;
            party.wanted[party.guests] = wanted;
            party.comes[party.guests] = comes;
            party.goes[party.guests] = goes;
            party.guests++;
            return NONE;
        }

        private int letterAt(int place) {
            return place >= 0 && place < length ? letters[place] : NONE;
        }

        private int momentAt(int place) {
            int letter = letterAt(place);
            if (letter == '-') {
                return CORRIDOR;
            }
            return letter >= 'a' && letter <= 'd' ? letter - 'a' : NONE;
        }

        private int figureAt(int place, int low, int high) {
            int letter = letterAt(place);
            boolean fits = letter >= '0' && letter <= '9' && letter - '0' >= low && letter - '0' <= high;
            return fits ? letter - '0' : NONE;
        }
    }

    /** How far an evening has come: all that acts change, and all that is kept. */
    static final class Burning {
        static final int CELLS = 3 * MOST_CANDLES + MOST_GUESTS + 2;

        final int[] place = new int[MOST_CANDLES];
        final int[] left = new int[MOST_CANDLES];
        final int[] flame = new int[MOST_CANDLES];
        final int[] had = new int[MOST_GUESTS];
        int cost = 0;
        int steps = 0;

        void begin(Party party) {
            for (int candle = 0; candle < MOST_CANDLES; candle++) {
                place[candle] = party.start[candle];
                left[candle] = party.inches[candle];
                flame[candle] = NEVER_LIT;
            }
            for (int guest = 0; guest < MOST_GUESTS; guest++) {
                had[guest] = 0;
            }
            cost = 0;
            steps = 0;
        }

        void copy(Burning other) {
            for (int candle = 0; candle < MOST_CANDLES; candle++) {
                place[candle] = other.place[candle];
                left[candle] = other.left[candle];
                flame[candle] = other.flame[candle];
            }
            for (int guest = 0; guest < MOST_GUESTS; guest++) {
                had[guest] = other.had[guest];
            }
            cost = other.cost;
            steps = other.steps;
        }

        /** Takes CELLS cells of the row, which must have them from 'at' on. */
        void saveTo(int[] row, int at) {
            if (at < 0 || at + CELLS > row.length) {
                return;
            }
            for (int i = 0; i < MOST_CANDLES; i++) {
                row[at + 3 * i] = place[i];
                row[at + 3 * i + 1] = left[i];
                row[at + 3 * i + 2] = flame[i];
            }
            for (int i = 0; i < MOST_GUESTS; i++) {
                row[at + 3 * MOST_CANDLES + i] = had[i];
            }
            row[at + CELLS - 2] = cost;
            row[at + CELLS - 1] = steps;
        }

        void loadFrom(int[] row, int at) {
            if (at < 0 || at + CELLS > row.length) {
                return;
            }
            for (int i = 0; i < MOST_CANDLES; i++) {
                place[i] = row[at + 3 * i];
                left[i] = row[at + 3 * i + 1];
                flame[i] = row[at + 3 * i + 2];
            }
            for (int i = 0; i < MOST_GUESTS; i++) {
                had[i] = row[at + 3 * MOST_CANDLES + i];
            }
            cost = row[at + CELLS - 2];
            steps = row[at + CELLS - 1];
        }

        boolean lightIfCan(Party party, int candle) {
            if (!party.hasCandle(candle) || flame[candle] != NEVER_LIT) {
                return false;
            }
            flame[candle] = BURNS;
            return true;
        }

        /** A step goes by: the guests that have had something by it, as bits. */
        int goBy(Party party) {
            int given = 0;
            for (int candle = 0; candle < party.candles; candle++) {
                if (flame[candle] == BURNS) {
                    given |= giftBit(party, candle, 0);
                    burnInch(party, candle);
                }
            }
            int who = 0;
            for (int guest = 0; guest < party.guests; guest++) {
                boolean isThere = steps >= party.comes[guest] && steps <= party.goes[guest];
                if (isThere && (given >> party.wish[guest] & 1) == 1) {
                    had[guest]++;
                    who |= 1 << guest;
                }
            }
            steps++;
            return who;
        }

        private void burnInch(Party party, int candle) {
            place[candle]++;
            left[candle]--;
            cost += party.price[candle];
            if (left[candle] <= 0) {
                flame[candle] = GONE;
            }
        }

        /** The gift, as a bit, of a candle's inch from its head on; 0 where there is none. */
        int giftBit(Party party, int candle, int inch) {
            if (!party.hasCandle(candle) || inch < 0 || inch >= left[candle]) {
                return 0;
            }
            int gift = party.giftAt(place[candle] + inch);
            return gift == CORRIDOR ? 0 : 1 << gift;
        }

        int withFlame(Party party, int kind) {
            int bits = 0;
            for (int candle = 0; candle < party.candles; candle++) {
                if (flame[candle] == kind) {
                    bits |= 1 << candle;
                }
            }
            return bits;
        }

        boolean isContent(Party party, int guest) {
            return party.hasGuest(guest) && had[guest] >= party.wanted[guest];
        }

        int contentGuests(Party party) {
            int bits = 0;
            for (int guest = 0; guest < party.guests; guest++) {
                if (isContent(party, guest)) {
                    bits |= 1 << guest;
                }
            }
            return bits;
        }
    }

    /** What was ahead of each of the last acts, in a ring. */
    static final class Acts {
        final int[] cells = new int[MOST_ACTS * Burning.CELLS];
        int first = 0;
        int size = 0;

        void clear() {
            first = 0;
            size = 0;
        }

        void add(Burning ahead) {
            if (size == MOST_ACTS) {
                first = (first + 1) % MOST_ACTS;
                size--;
            }
            ahead.saveTo(cells, (first + size) % MOST_ACTS * Burning.CELLS);
            size++;
        }

        void takeBack(Burning now) {
            if (size > 0) {
                size--;
                now.loadFrom(cells, (first + size) % MOST_ACTS * Burning.CELLS);
            }
        }
    }

    /**
     * Weighs every plan once for a state of the evening. The steps from now on at which a gift is
     * given, or a guest is there to take it, are bits of a long: 16 steps to each of the four gifts,
     * so that what a plan gives is the "or" of what its candles give.
     */
    static final class Planner {
        static final int FIGURES = LAST_START + 1;
        static final int SPAN = 16;
        // More than any plan costs: no plan.
        static final int DEAR = 1000000;

        final long[] gives = new long[MOST_CANDLES * FIGURES];
        final int[] price = new int[MOST_CANDLES];
        final int[] lastFigure = new int[MOST_CANDLES];
        final long[] takes = new long[MOST_GUESTS];
        final int[] lacks = new int[MOST_GUESTS];
        final int[] figures = new int[MOST_CANDLES];
        final int[] chosen = new int[MOST_CANDLES];
        final int[] cheapest = new int[1 << MOST_GUESTS];
        int guests = 0;
        int all = 0;
        int reached = 0;
        boolean fresh = false;

        void work(Party party, Burning now) {
            if (fresh) {
                return;
            }
            guests = party.guests;
            all = (1 << guests) - 1;
            reached = 0;
            for (int set = 0; set <= all && set < cheapest.length; set++) {
                cheapest[set] = DEAR;
            }
            for (int guest = 0; guest < party.guests; guest++) {
                layGuest(party, now, guest);
            }
            long burnOn = 0L;
            for (int candle = 0; candle < MOST_CANDLES; candle++) {
                burnOn |= layCandle(party, now, candle);
            }
            tryCandle(this, 0, burnOn, 0);
            spreadToFewerGuests();
            fresh = true;
        }

        private void layGuest(Party party, Burning now, int guest) {
            long steps = 0L;
            for (int ahead = 0; ahead < SPAN; ahead++) {
                int step = now.steps + ahead;
                if (step >= party.comes[guest] && step <= party.goes[guest]) {
                    steps |= 1L << ahead;
                }
            }
            takes[guest] = steps << SPAN * party.wish[guest];
            lacks[guest] = party.wanted[guest] - now.had[guest];
        }

        /** Answers what a candle that burns gives from now on. */
        private long layCandle(Party party, Burning now, int candle) {
            boolean free = party.hasCandle(candle) && now.flame[candle] == NEVER_LIT;
            boolean burns = party.hasCandle(candle) && now.flame[candle] == BURNS;
            long atOnce = 0L;
            for (int inch = 0; inch < MOST_INCHES; inch++) {
                int gift = now.giftBit(party, candle, inch);
                if (gift != 0) {
                    atOnce |= 1L << SPAN * Integer.numberOfTrailingZeros(gift) + inch;
                }
            }
            lastFigure[candle] = free ? LAST_START : 0;
            price[candle] = free ? party.price[candle] * now.left[candle] : 0;
            gives[candle * FIGURES] = 0L;
            for (int start = 1; start <= LAST_START; start++) {
                gives[candle * FIGURES + start] = atOnce << start - 1;
            }
            return burns ? atOnce : 0L;
        }

        /** Every figure of this candle with every one of those behind it; at most MOST_CANDLES deep. */
        private static void tryCandle(Planner planner, int candle, long given, int cost) {
            if (candle >= MOST_CANDLES) {
                planner.weigh(given, cost);
                return;
            }
            for (int figure = 0; figure <= planner.lastFigure[candle]; figure++) {
                planner.figures[candle] = figure;
                int more = figure == 0 ? 0 : planner.price[candle];
                tryCandle(planner, candle + 1, given | planner.gives[candle * FIGURES + figure], cost + more);
            }
        }

        private void weigh(long given, int cost) {
            int content = 0;
            for (int guest = 0; guest < guests; guest++) {
                if (Long.bitCount(given & takes[guest]) >= lacks[guest]) {
                    content |= 1 << guest;
                }
            }
            reached |= content;
            // Plans come in the order of their figures: of like ones the first stays.
            if (cost < cheapest[content]) {
                cheapest[content] = cost;
                if (content == all) {
                    System.arraycopy(figures, 0, chosen, 0, MOST_CANDLES);
                }
            }
        }

        // What does for more guests does for fewer of them too.
        private void spreadToFewerGuests() {
            for (int guest = 0; guest < guests; guest++) {
                for (int set = 0; set <= all; set++) {
                    cheapest[set] = Math.min(cheapest[set], cheapest[set | 1 << guest]);
                }
            }
        }

        int costForAll() {
            return cheapest[all] == DEAR ? NONE : cheapest[all];
        }

        /** What the guest adds in all orders of coming, together; some plan must do for all. */
        int sharesOf(int guest) {
            int sum = 0;
            for (int set = 0; set <= all; set++) {
                if ((set >> guest & 1) == 0) {
                    int before = Integer.bitCount(set);
                    int orders = FACTORIALS[before] * FACTORIALS[guests - 1 - before];
                    sum += orders * (cheapest[set | 1 << guest] - cheapest[set]);
                }
            }
            return sum;
        }
    }

    /** What is seen of a box that burns. */
    static final class Box {
        final int[] seen = new int[MOST_SEEN];
        int size = 0;

        int add(int moment) {
            if (size >= MOST_SEEN) {
                return FULL;
            }
            seen[size] = moment;
            size++;
            return size;
        }

        int clear() {
            int before = size;
            size = 0;
            return before;
        }

        int origins(Party party, int inches) {
            int bits = 0;
            for (int place = 0; size <= inches && place + inches <= party.moments; place++) {
                if (canBeFrom(party, place)) {
                    bits |= 1 << place;
                }
            }
            return bits;
        }

        private boolean canBeFrom(Party party, int place) {
            for (int i = 0; i < size; i++) {
                if (party.giftAt(place + i) != seen[i]) {
                    return false;
                }
            }
            return true;
        }
    }

    /** Cuts long candles: for each set of orders the fewest, then the least used of the last one. */
    static final class Saw {
        static final int USED = 32;
        // More than any set of orders needs.
        static final int TOO_MANY = 1000000;

        final int[] least = new int[1 << MOST_ORDERS];

        int fewest(int n, int k, int orders) {
            int all = (1 << k) - 1;
            // No candle yet, and none begun: the first order takes a new one.
            least[0] = n;
            for (int set = 1; set <= all && set < least.length; set++) {
                least[set] = TOO_MANY;
                for (int i = 0; i < k; i++) {
                    if ((set >> i & 1) == 1) {
                        int then = withOrder(least[set & ~(1 << i)], figure(orders, k, i), n);
                        least[set] = Math.min(least[set], then);
                    }
                }
            }
            return least[all] / USED;
        }

        private static int withOrder(int ahead, int order, int n) {
            int used = ahead % USED;
            return used + order <= n ? ahead + order : (ahead / USED + 1) * USED + order;
        }
    }
}
