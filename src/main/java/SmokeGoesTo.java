import java.util.Arrays;

/**
 * Eight places round a fire and a smoke that goes to who moves. What each call promises stands in
 * ../shared/DOC.md; the words in capitals below are that document's terms.
 */
public final class SmokeGoesTo {
    public static final int NONE = -1, BAD = -2, STATE = -3, FULL = -4;
    public static final long NO = -4611686018427387904L;

    private static final int MISSING = -11, OUTSIDE = -12, UNLIKE = -13, NEGATIVE = -14;
    private static final int NO_ANSWER = -100, NO_EDDIES = -100000, FAULTS = -100;

    private static final int PLACES = 8, ALL_TENTS = 255, HUNDRED = 100;
    private static final int MOST_SITTERS = 5, MOST_NUMBER = 9, KINDS = 6;
    private static final int MOST_TEXTS = 6, MOST_BYTES = 160, MOST_BYTE = 255, MOST_OPEN = 5;
    private static final int ALL_SHEETS = 4, SORTS = 3, MOST_ITEMS = 40;
    private static final int LIKELY_MINUTES = 8, EYES_MINUTES = 5, DRAWN_MINUTES = 10, MOST_SEEDS = 20;

    private static final int EYES_WINDS = NONE, EYES_FIRST = -2;

    private static final int BEARS = 0, MOVES = 1, HEAT = 2, PARTS = 3, MOST_COST = 99;
    private static final String FIRST_RULE = "bears 5 + long ; moves 3 ; heat 0 ;";

    private final Fire fire = new Fire();
    private final Fire kept = new Fire();
    private boolean hasImage = false;
    private final Reader reader = new Reader();
    private final Text[] texts = new Text[MOST_TEXTS];
    private int textCount = 0;
    private final Sheet[] sheets = new Sheet[ALL_SHEETS];
    private final Night thought = new Night();
    private final Odds odds = new Odds();

    public SmokeGoesTo() {
        for (int t = 0; t < MOST_TEXTS; t++) {
            texts[t] = new Text();
        }
        for (int s = 0; s < ALL_SHEETS; s++) {
            sheets[s] = new Sheet();
        }
        for (int i = 0; i < FIRST_RULE.length(); i++) {
            reader.add(FIRST_RULE.charAt(i));
        }
        reader.read(texts[0]);
        reader.empty();
        textCount = 1;
    }

    // ---- the fire, sitters

    public int set(int what, int of, int v) {
        switch (what) {
            case 0: return setSmoke(v);
            case 1: return setLeft(v);
            case 2: return setRight(v);
            case 3: return setTents(v);
            case 4: return setEddy(v);
            case 5: return setNumber(of, v);
            case 6: return setPlace(of, v);
            default: return BAD;
        }
    }

    private int setSmoke(int place) {
        if (!isPlace(place)) return BAD;
        int was = fire.smoke;
        fire.smoke = place;
        return was;
    }

    private int setLeft(int chance) {
        if (chance < 0 || chance > HUNDRED - fire.right) return BAD;
        int was = fire.left;
        fire.left = chance;
        return was;
    }

    private int setRight(int chance) {
        if (chance < 0 || chance > HUNDRED - fire.left) return BAD;
        int was = fire.right;
        fire.right = chance;
        return was;
    }

    private int setTents(int bits) {
        if (bits < 0 || bits > ALL_TENTS) return BAD;
        int was = fire.tents;
        fire.tents = bits;
        return was;
    }

    private int setEddy(int eddy) {
        if (eddy < 0 || eddy > 1) return BAD;
        int was = fire.eddy;
        fire.eddy = eddy;
        return was;
    }

    private int setNumber(int sitter, int number) {
        if (!fire.has(sitter) || number < 0 || number > MOST_NUMBER) return BAD;
        int was = fire.numbers[sitter];
        fire.numbers[sitter] = number;
        return was;
    }

    private int setPlace(int sitter, int place) {
        if (!fire.has(sitter) || !isPlace(place)) return BAD;
        if (!fire.isFreeFor(sitter, place)) return STATE;
        int was = fire.places[sitter];
        fire.places[sitter] = place;
        return was;
    }

    public int sitter(int kind, int number, int place) {
        return fire.come(kind, number, place);
    }

    public int told(int sitter, int what) {
        if (!fire.has(sitter) || what < 0 || what > 9) return BAD;
        int kind = fire.kinds[sitter];
        switch (what) {
            case 0: return kind;
            case 1: return fire.numbers[sitter];
            case 2: return fire.places[sitter];
            case 3: return Kind.goes(kind, fire.places[sitter], 0);
            default: return Kind.getsUp(kind, fire.numbers[sitter], what - 3) ? 1 : 0;
        }
    }

    // ---- texts

    public int feed(int letter) {
        if (letter < 0 || letter > MOST_BYTE) return BAD;
        if (!reader.add(letter)) return FULL;
        return reader.size;
    }

    public int text() {
        if (textCount >= MOST_TEXTS) return FULL;
        int fault = reader.read(texts[textCount]);
        reader.empty();
        if (fault != NONE) return FAULTS - fault;
        textCount++;
        return textCount - 1;
    }

    public int force(int text) {
        if (text < 0 || text >= textCount) return BAD;
        int was = fire.rule;
        fire.rule = text;
        return was;
    }

    // ---- nights

    public int night(int sheet, int what) {
        if (!isSheet(sheet) || !isNightWhat(what) || sheets[sheet].isMissing()) return NO_ANSWER;
        thought.takeWinds(sheets[sheet]);
        thinkAsItIs();
        return what < 10 ? thought.ofAll(what) : thought.ofOne(what / 10, what % 10);
    }

    private boolean isNightWhat(int what) {
        if (what < 10) return what >= 0 && what <= 3;
        return what < 60 && fire.has(what % 10);
    }

    public int sit(int sheet) {
        int refused = refusal(sheet);
        if (refused != 0) return refused;
        thought.takeWinds(sheets[sheet]);
        thinkAsItIs();
        fire.smoke = thought.now.smoke;
        System.arraycopy(thought.now.places, 0, fire.places, 0, MOST_SITTERS);
        return thought.costOfAll();
    }

    private void thinkAsItIs() {
        thought.begin(fire);
        thought.run(texts[fire.rule]);
    }

    // ---- how likely

    public long likely(int n, int place, int part) {
        if (n < 0 || n > LIKELY_MINUTES || !isPlace(place) || !isPart(part)) return NO;
        odds.spread(fire, n);
        return lowest(odds.at[place], odds.below, part);
    }

    public long mean(int n, int place, int part) {
        if (!isMeanMinutes(n) || !isPlace(place) || !isPart(part)) return NO;
        odds.spread(fire, n);
        return lowest(odds.together[place], odds.below, part);
    }

    public int seat(int sitter, int n) {
        if (!fire.has(sitter) || !isMeanMinutes(n)) return BAD;
        odds.spread(fire, n);
        int found = NONE;
        for (int p = 0; p < PLACES; p++) {
            if (fire.hasTent(p) || !fire.isFreeFor(sitter, p)) continue;
            if (found == NONE || odds.together[p] < odds.together[found]) found = p;
        }
        return found;
    }

    public int gap(int n, int sitter) {
        if (!isMeanMinutes(n) || !fire.has(sitter)) return BAD;
        odds.spread(fire, n);
        int chosen = 0;
        for (int s = 0; s < fire.size; s++) {
            chosen |= 1 << leastOutside(chosen);
        }
        return placeOfBit(chosen, sitter);
    }

    /**
     * The PLACE with the least MEAN, of like ones the first, of those that aren't chosen. What the
     * SITTERS' PLACES have together does not depend on who sits where, so the least of them in
     * turn, each of like ones the first, are those of GAP, and in rising order they are its first.
     */
    private int leastOutside(int chosen) {
        int found = 0;
        long least = Long.MAX_VALUE;
        for (int p = 0; p < PLACES; p++) {
            long mean = fire.hasTent(p) ? 0 : odds.together[p];
            if ((chosen >> p & 1) == 0 && mean < least) {
                found = p;
                least = mean;
            }
        }
        return found;
    }

    /** The PLACE of the bit that has so many bits of these below it. */
    private static int placeOfBit(int bits, int below) {
        int passed = 0;
        for (int p = 0; p < PLACES; p++) {
            if ((bits >> p & 1) == 0) continue;
            if (passed == below) return p;
            passed++;
        }
        return NONE;
    }

    // ---- for told winds

    public int stay(int sheet) {
        int refused = refusal(sheet);
        if (refused != 0) return refused;
        thought.takeWinds(sheets[sheet]);
        int bits = 0;
        for (int s = 0; s < fire.size; s++) {
            int place = fire.places[s];
            if (costIf(s, Kind.SITTER, place) < costIf(s, fire.kinds[s], place)) bits |= 1 << s;
        }
        return bits;
    }

    public int eddies(int sheet) {
        if (refusal(sheet) != 0) return NO_EDDIES;
        thought.takeWinds(sheets[sheet]);
        return costIfEddy(1) - costIfEddy(0);
    }

    private int costIfEddy(int eddy) {
        thought.begin(fire);
        thought.now.eddy = eddy;
        thought.run(texts[fire.rule]);
        return thought.costOfAll();
    }

    public int best(int sheet, int sitter, int what) {
        if (!isSheet(sheet) || !fire.has(sitter) || what < 0 || what > 1) return BAD;
        if (sheets[sheet].isMissing()) return MISSING;
        thought.takeWinds(sheets[sheet]);
        int found = NONE;
        int least = 0;
        for (int p = 0; p < PLACES; p++) {
            if (!fire.isFreeFor(sitter, p)) continue;
            int cost = costIf(sitter, fire.kinds[sitter], p);
            if (found == NONE || cost < least) {
                found = p;
                least = cost;
            }
        }
        return what == 0 ? found : least;
    }

    /** One's COST by the winds that are taken, were one of a KIND and did one sit on a PLACE at first. */
    private int costIf(int sitter, int kind, int place) {
        thought.begin(fire);
        thought.now.kinds[sitter] = kind;
        thought.now.places[sitter] = place;
        thought.run(texts[fire.rule]);
        return thought.costs[sitter];
    }

    // ---- red eyes

    public int eyes(int sheet, int n, int what) {
        if (!isSheet(sheet) || n < 0 || n > EYES_MINUTES) return NO_ANSWER;
        if (what < EYES_FIRST || what >= fire.size) return NO_ANSWER;
        Sheet red = sheets[sheet];
        if (red.isMissing() || red.size != fire.size) return NO_ANSWER;
        if (what == EYES_WINDS) return rowsThatFit(red, n);
        if (what == EYES_FIRST) return firstThatFits(red, n);
        return kindsThatFit(red, n, what);
    }

    private int rowsThatFit(Sheet red, int n) {
        int rows = rowsOf(n);
        int fitting = 0;
        for (int row = 0; row < rows; row++) {
            if (fits(red, n, row, NONE, NONE)) fitting++;
        }
        return fitting;
    }

    private int firstThatFits(Sheet red, int n) {
        int rows = rowsOf(n);
        for (int row = 0; row < rows; row++) {
            if (fits(red, n, row, NONE, NONE)) return thought.digits();
        }
        return NONE;
    }

    private int kindsThatFit(Sheet red, int n, int sitter) {
        int rows = rowsOf(n);
        int bits = 0;
        for (int kind = 0; kind < KINDS; kind++) {
            for (int row = 0; row < rows && (bits >> kind & 1) == 0; row++) {
                if (fits(red, n, row, sitter, kind)) bits |= 1 << kind;
            }
        }
        return bits;
    }

    /** How many rows of n winds there are. */
    private static int rowsOf(int n) {
        int rows = 1;
        for (int m = 0; m < n; m++) {
            rows *= 3;
        }
        return rows;
    }

    /** Whether all would be in the smoke as often as told by a row of winds, were a SITTER (or NONE) of a KIND. */
    private boolean fits(Sheet red, int n, int row, int sitter, int kind) {
        thought.takeRow(row, n);
        thought.begin(fire);
        if (fire.has(sitter)) thought.now.kinds[sitter] = kind;
        thought.run(null);
        for (int s = 0; s < fire.size; s++) {
            if (thought.smoked[s] != red.item(s)) return false;
        }
        return true;
    }

    public int film(int sheet, int winds) {
        if (!isSheet(sheet) || !isSheet(winds)) return BAD;
        if (sheets[winds].isMissing()) return MISSING;
        thought.takeWinds(sheets[winds]);
        thought.begin(fire);
        thought.run(null);
        sheets[sheet].become(Sheet.BYTES, fire.size);
        for (int s = 0; s < fire.size; s++) {
            sheets[sheet].put(s, thought.smoked[s]);
        }
        return fire.size;
    }

    public int drawn(int seed) {
        thought.drawWinds(seed, fire.left, fire.right);
        thinkAsItIs();
        return thought.costOfAll();
    }

    public long chance(int seed, int n, int part) {
        if (n < 1 || n > MOST_SEEDS || !isPart(part)) return NO;
        int quiet = 0;
        for (int i = 0; i < n; i++) {
            thought.drawWinds(seed + i, fire.left, fire.right);
            thought.begin(fire);
            thought.run(null);
            if (thought.upsOfAll() == 0) quiet++;
        }
        return lowest(quiet, n, part);
    }

    public int image() {
        kept.become(fire);
        hasImage = true;
        return fire.size;
    }

    public int back() {
        if (!hasImage) return STATE;
        fire.become(kept);
        return fire.size;
    }

    public int count(int what) {
        switch (what) {
            case 0: return fire.size;
            case 1: return fire.smoke;
            case 2: return fire.left;
            case 3: return fire.right;
            case 4: return fire.tents;
            case 5: return fire.eddy;
            case 6: return textCount;
            case 7: return reader.size;
            case 8: return fire.rule;
            default: return BAD;
        }
    }

    // ---- the host

    public int sheet(int sheet, int sort, int n) {
        if (!isSheet(sheet) || sort < NONE || sort >= SORTS) return BAD;
        if (sort == NONE) {
            sheets[sheet].become(NONE, 0);
            return 1;
        }
        if (n > MOST_ITEMS) return BAD;
        if (n < 0) return NEGATIVE;
        sheets[sheet].become(sort, n);
        return 1;
    }

    public int cell(int sheet, int i, int v) {
        int refused = refusal(sheet);
        if (refused != 0) return refused;
        if (i < 0 || i >= sheets[sheet].size) return OUTSIDE;
        sheets[sheet].put(i, v);
        return 1;
    }

    public int copy(int sheet, int i, int other, int j, int n) {
        if (!isSheet(sheet) || !isSheet(other)) return BAD;
        Sheet from = sheets[sheet];
        Sheet to = sheets[other];
        if (from.isMissing() || to.isMissing()) return MISSING;
        if (from.sort != to.sort) return UNLIKE;
        if (!from.holds(i, n) || !to.holds(j, n)) return OUTSIDE;
        System.arraycopy(from.items, i, to.items, j, n);
        return n;
    }

    public int sitters(int sheet, int sort, int from, int n) {
        if (!isSheet(sheet) || sort < 0 || sort >= SORTS || n < 0 || n > MOST_SITTERS) return BAD;
        Sheet row = sheets[sheet];
        if (row.isMissing()) return MISSING;
        if (row.sort != sort) return UNLIKE;
        int came = 0;
        int at = from;
        for (int i = 0; i < n; i++) {
            if (!row.holds(at, 3)) return OUTSIDE;
            if (fire.come(row.item(at), row.item(at + 1), row.item(at + 2)) >= 0) came++;
            at += 3;
        }
        return came;
    }

    public int taken(int sitter, int k) {
        if (!Kind.exists(k)) return BAD;
        if (!fire.has(sitter)) return MISSING;
        if (!Kind.isUnder(fire.kinds[sitter], k)) return UNLIKE;
        return fire.numbers[sitter];
    }

    // ---- what several calls ask

    private static boolean isPlace(int place) {
        return place >= 0 && place < PLACES;
    }

    private static boolean isPart(int part) {
        return part == 0 || part == 1;
    }

    private static boolean isSheet(int sheet) {
        return sheet >= 0 && sheet < ALL_SHEETS;
    }

    private static boolean isMeanMinutes(int n) {
        return n >= 1 && n <= LIKELY_MINUTES;
    }

    /** Why a SHEET can't be read: BAD, MISSING, or 0, if it can. */
    private int refusal(int sheet) {
        if (!isSheet(sheet)) return BAD;
        return sheets[sheet].isMissing() ? MISSING : 0;
    }

    /** The PLACES are eight, so their round is a mask, of what is below 0, too. */
    private static int round(int place) {
        return place & PLACES - 1;
    }

    /** A part (0 above, 1 below the line) of a quotient in lowest terms. */
    private static long lowest(long above, long below, int part) {
        long divisor = commonDivisor(above, below);
        if (divisor == 0) return NO;
        return (part == 0 ? above : below) / divisor;
    }

    private static long commonDivisor(long a, long b) {
        long greater = a;
        long less = b;
        for (int turn = 0; turn < 1000 && less != 0; turn++) {
            long rest = greater % less;
            greater = less;
            less = rest;
        }
        return greater;
    }

    /** What the KINDS do. */
    private static final class Kind {
        static final int SITTER = 0, MOVER = 1, COUNTER = 2, NEIGHBOUR = 3, BRAVE = 4, SLEEPER = 5;

        static boolean exists(int kind) {
            return kind >= 0 && kind < KINDS;
        }

        /** Whether a KIND is another one or under it, also by others between. */
        static boolean isUnder(int kind, int other) {
            int k = kind;
            for (int up = 0; up < KINDS && k != NONE; up++) {
                if (k == other) return true;
                k = above(k);
            }
            return false;
        }

        private static int above(int kind) {
            switch (kind) {
                case MOVER: return SITTER;
                case COUNTER: return SITTER;
                case NEIGHBOUR: return MOVER;
                case BRAVE: return COUNTER;
                case SLEEPER: return SITTER;
                default: return NONE;
            }
        }

        static boolean getsUp(int kind, int number, int l) {
            switch (kind) {
                case MOVER: return true;
                case COUNTER: return l > number;
                case NEIGHBOUR: return true;
                case BRAVE: return l % 2 == 0 && l > number;
                default: return false;
            }
        }

        static int goes(int kind, int place, int wind) {
            switch (kind) {
                case NEIGHBOUR: return round(place + (wind == 0 ? 1 : wind));
                case BRAVE: return round(place + 2);
                default: return round(place + 4);
            }
        }

        static int bears(int kind, int told, int l) {
            switch (kind) {
                case MOVER: return 2 * told;
                case COUNTER: return told + l;
                case NEIGHBOUR: return Math.max(0, 2 * told - 1);
                case BRAVE: return (told + l) / 2;
                case SLEEPER: return 0;
                default: return told;
            }
        }
    }

    /** All that an IMAGE keeps and that a NIGHT starts from. */
    private static final class Fire {
        int smoke = 0, left = 30, right = 30, tents = 0, eddy = 0, rule = 0, size = 0;
        final int[] kinds = new int[MOST_SITTERS];
        final int[] numbers = new int[MOST_SITTERS];
        final int[] places = new int[MOST_SITTERS];

        void become(Fire other) {
            smoke = other.smoke;
            left = other.left;
            right = other.right;
            tents = other.tents;
            eddy = other.eddy;
            rule = other.rule;
            size = other.size;
            System.arraycopy(other.kinds, 0, kinds, 0, MOST_SITTERS);
            System.arraycopy(other.numbers, 0, numbers, 0, MOST_SITTERS);
            System.arraycopy(other.places, 0, places, 0, MOST_SITTERS);
        }

        boolean has(int sitter) {
            return sitter >= 0 && sitter < size;
        }

        boolean hasTent(int place) {
            return (tents >> place & 1) == 1;
        }

        int whoIsOn(int place) {
            for (int s = 0; s < size; s++) {
                if (places[s] == place) return s;
            }
            return NONE;
        }

        boolean isFreeFor(int sitter, int place) {
            int who = whoIsOn(place);
            return who == NONE || who == sitter;
        }

        int come(int kind, int number, int place) {
            if (!Kind.exists(kind) || number < 0 || number > MOST_NUMBER || !isPlace(place)) return BAD;
            if (whoIsOn(place) != NONE) return STATE;
            if (size >= MOST_SITTERS) return FULL;
            kinds[size] = kind;
            numbers[size] = number;
            places[size] = place;
            size++;
            return size - 1;
        }
    }

    /** A NIGHT in thought: take winds, begin, change what should be otherwise, run, look. */
    private static final class Night {
        final Fire now = new Fire();
        final int[] costs = new int[MOST_SITTERS];
        final int[] smoked = new int[MOST_SITTERS];
        private final int[] winds = new int[MOST_ITEMS];
        private final int[] longest = new int[MOST_SITTERS];
        private final int[] ups = new int[MOST_SITTERS];
        private final int[] longs = new int[MOST_SITTERS];
        private final int[] names = new int[Text.NAMES];
        private final int[] stack = new int[MOST_BYTES];
        private int minutes = 0;
        private int needless = 0;
        /** Who got up in the MINUTE ahead, and which PLACE was left then: NONE, if nobody did. */
        private int riser = NONE;
        private int leftPlace = NONE;
        private Text rule = null;

        void takeWinds(Sheet told) {
            minutes = told.size;
            for (int m = 0; m < minutes; m++) {
                int wind = told.item(m);
                winds[m] = wind < 0 ? -1 : wind > 0 ? 1 : 0;
            }
        }

        /** The winds of one of all rows of n, which are numbered in their order. */
        void takeRow(int row, int n) {
            minutes = n;
            int rest = row;
            for (int m = n - 1; m >= 0; m--) {
                winds[m] = rest % 3 - 1;
                rest /= 3;
            }
        }

        void drawWinds(int seed, int left, int right) {
            minutes = DRAWN_MINUTES;
            int z = seed;
            for (int m = 0; m < minutes; m++) {
                z = z * 1103515245 + 12345;
                int q = (z >>> 9) % HUNDRED;
                winds[m] = q < left ? -1 : q < left + right ? 1 : 0;
            }
        }

        int digits() {
            int all = 0;
            for (int m = 0; m < minutes; m++) {
                all = all * 10 + winds[m] + 2;
            }
            return all;
        }

        void begin(Fire from) {
            now.become(from);
            Arrays.fill(costs, 0);
            Arrays.fill(smoked, 0);
            Arrays.fill(longest, 0);
            Arrays.fill(ups, 0);
            Arrays.fill(longs, 0);
            needless = 0;
            riser = NONE;
            leftPlace = NONE;
        }

        /** By a null for a TEXT nothing costs: COSTS move nobody, and who doesn't ask for them is spared them. */
        void run(Text text) {
            rule = text;
            for (int m = 0; m < minutes; m++) {
                turn(winds[m]);
                if (leftPlace != NONE && now.smoke != leftPlace) needless++;
                // no two sit on one PLACE: nobody else is in the smoke, nor gets up
                int who = now.hasTent(now.smoke) ? NONE : now.whoIsOn(now.smoke);
                for (int s = 0; s < now.size; s++) {
                    feel(s, s == who, m);
                }
                riser = NONE;
                leftPlace = NONE;
                if (who != NONE && Kind.getsUp(now.kinds[who], now.numbers[who], longs[who])) {
                    rise(who, m, winds[m]);
                }
            }
        }

        private void turn(int wind) {
            now.smoke = round(now.smoke + wind);
            if (now.eddy == 0 || riser == NONE) return;
            int toTheRight = round(now.places[riser] - now.smoke);
            if (toTheRight == 0) return;
            now.smoke = round(now.smoke + (toTheRight <= PLACES / 2 ? 1 : -1));
        }

        private void feel(int sitter, boolean inSmoke, int minute) {
            if (!inSmoke) {
                longs[sitter] = 0;
                costs[sitter] += price(HEAT, sitter, minute);
                return;
            }
            longs[sitter]++;
            longest[sitter] = Math.max(longest[sitter], longs[sitter]);
            smoked[sitter]++;
            if (rule == null) return;
            costs[sitter] += Kind.bears(now.kinds[sitter], price(BEARS, sitter, minute), longs[sitter]);
        }

        private void rise(int sitter, int minute, int wind) {
            costs[sitter] += price(MOVES, sitter, minute);
            ups[sitter]++;
            riser = sitter;
            leftPlace = now.places[sitter];
            int place = Kind.goes(now.kinds[sitter], leftPlace, wind);
            for (int on = 0; on < PLACES && !now.isFreeFor(sitter, place); on++) {
                place = round(place + 1);
            }
            now.places[sitter] = place;
            longs[sitter] = 0;
        }

        private int price(int part, int sitter, int minute) {
            if (rule == null) return 0;
            names[0] = now.places[sitter];
            names[1] = now.smoke;
            names[2] = minute;
            names[3] = longs[sitter];
            names[4] = now.numbers[sitter];
            names[5] = sitter;
            return Math.max(0, Math.min(MOST_COST, rule.value(part, names, stack)));
        }

        int ofAll(int what) {
            switch (what) {
                case 0: return costOfAll();
                case 1: return now.smoke;
                case 2: return upsOfAll();
                default: return needless;
            }
        }

        int ofOne(int what, int sitter) {
            switch (what) {
                case 1: return costs[sitter];
                case 2: return smoked[sitter];
                case 3: return longest[sitter];
                case 4: return ups[sitter];
                default: return now.places[sitter];
            }
        }

        int costOfAll() {
            return sum(costs);
        }

        int upsOfAll() {
            return sum(ups);
        }

        private static int sum(int[] row) {
            int all = 0;
            for (int s = 0; s < row.length; s++) {
                all += row[s];
            }
            return all;
        }
    }

    /** How likely THE SMOKE is where, all above one line. */
    private static final class Odds {
        /** Above the line, of each PLACE: LIKELY, MEAN; and what stands below it. */
        final long[] at = new long[PLACES];
        final long[] together = new long[PLACES];
        long below = 1;
        private final long[] ahead = new long[PLACES];

        void spread(Fire fire, int n) {
            Arrays.fill(at, 0);
            Arrays.fill(together, 0);
            at[round(fire.smoke)] = 1;
            below = 1;
            for (int m = 0; m < n; m++) {
                pass(fire.left, fire.right);
                below *= HUNDRED;
            }
        }

        private void pass(int left, int right) {
            System.arraycopy(at, 0, ahead, 0, PLACES);
            for (int p = 0; p < PLACES; p++) {
                at[p] = ahead[p] * (HUNDRED - left - right)
                    + ahead[round(p + 1)] * left + ahead[round(p - 1)] * right;
                together[p] = together[p] * HUNDRED + at[p];
            }
        }
    }

    /** A row of numbers of a sort; a missing one is of sort NONE. */
    private static final class Sheet {
        static final int BYTES = 0, SHORTS = 1;
        int sort = NONE;
        int size = 0;
        final int[] items = new int[MOST_ITEMS];

        void become(int newSort, int newSize) {
            sort = newSort;
            size = newSize;
            Arrays.fill(items, 0);
        }

        boolean isMissing() {
            return sort == NONE;
        }

        /** Whether n items stand from item i on. */
        boolean holds(int i, int n) {
            return i >= 0 && n >= 0 && n <= size && i <= size - n;
        }

        int item(int i) {
            return i >= 0 && i < size ? items[i] : 0;
        }

        void put(int i, int v) {
            if (i < 0 || i >= size) return;
            items[i] = sort == BYTES ? (byte) v : sort == SHORTS ? (short) v : v;
        }
    }

    /**
     * A TEXT, its three Es one behind the other, each so that what an operator joins stands ahead of
     * it: a NUMBER as it is, a NAME and an operator below 0.
     */
    private static final class Text {
        static final int NAMES = 6;
        /** A - ahead of a ONE; the other operators are told by their token. */
        static final int MINUS = 128;
        private final int[] code = new int[MOST_BYTES];
        private final int[] ends = new int[PARTS];
        private int size = 0;

        void clear() {
            size = 0;
            Arrays.fill(ends, 0);
        }

        void addNumber(int number) {
            if (size >= MOST_BYTES) return;
            code[size] = number;
            size++;
        }

        void addName(int name) {
            addNumber(-1 - name);
        }

        void addOperator(int operator) {
            addNumber(-operator);
        }

        void endPart(int part) {
            ends[part] = size;
        }

        int value(int part, int[] names, int[] stack) {
            int top = 0;
            for (int i = part == 0 ? 0 : ends[part - 1]; i < ends[part]; i++) {
                int it = code[i];
                if (it >= -NAMES) {
                    if (top >= stack.length) return 0;
                    stack[top] = it >= 0 ? it : names[-1 - it];
                    top++;
                } else if (it == -MINUS || it == -Reader.NOT) {
                    if (top < 1) return 0;
                    int one = stack[top - 1];
                    stack[top - 1] = it == -MINUS ? -one : one == 0 ? 1 : 0;
                } else {
                    if (top < 2) return 0;
                    top--;
                    stack[top - 1] = joined(-it, stack[top - 1], stack[top]);
                }
            }
            return top < 1 ? 0 : stack[0];
        }

        private static int joined(int operator, int a, int b) {
            switch (operator) {
                case '+': return a + b;
                case '-': return a - b;
                case '*': return a * b;
                case '<': return a < b ? 1 : 0;
                case '=': return a == b ? 1 : 0;
                case Reader.OR: return a != 0 || b != 0 ? 1 : 0;
                default: return a != 0 && b != 0 ? 1 : 0;
            }
        }
    }

    /** THE TAPE, and the reading of a TEXT from it, token by token. */
    private static final class Reader {
        /** Tokens: a sign is its own byte, a WORD comes behind all bytes, NAMES first. */
        static final int END = 0, WRONG = 1, NUMBER = 2, WORD = 256;
        static final int KEYS = WORD + Text.NAMES, OR = KEYS + PARTS, AND = OR + 1, NOT = AND + 1;
        /** Of like length, so that the place of each tells its number. */
        static final String WORDS = "place smoke minutelong  numbersitterbears moves heat  or    and   not   ";
        static final String SIGNS = "();+-*<=";
        static final int WORD_SIZE = 6, WORD_COUNT = 12, DIGITS = 4;

        int size = 0;
        private final int[] tape = new int[MOST_BYTES];
        private int token = END;
        private int tokenStart = 0;
        private int next = 0;
        private int number = 0;
        private Text out = null;

        boolean add(int letter) {
            if (size >= MOST_BYTES) return false;
            tape[size] = letter;
            size++;
            return true;
        }

        void empty() {
            size = 0;
        }

        /** Reads THE TAPE into a TEXT: the place of the FAULT, or NONE. */
        int read(Text into) {
            out = into;
            into.clear();
            next = 0;
            step();
            for (int part = 0; part < PARTS; part++) {
                if (!accept(KEYS + part) || !readOr(0) || !accept(';')) return tokenStart;
                into.endPart(part);
            }
            return token == END ? NONE : tokenStart;
        }

        private boolean accept(int wanted) {
            if (token != wanted) return false;
            step();
            return true;
        }

        // Each of these answers false at a FAULT: the token then is the one that can't stand there.
        // Each turn of a loop has a token of its own, so THE TAPE's length is above what any needs.

        private boolean readOr(int open) {
            if (!readAnd(open)) return false;
            for (int more = 0; more < MOST_BYTES && token == OR; more++) {
                step();
                if (!readAnd(open)) return false;
                out.addOperator(OR);
            }
            return true;
        }

        private boolean readAnd(int open) {
            if (!readNot(open)) return false;
            for (int more = 0; more < MOST_BYTES && token == AND; more++) {
                step();
                if (!readNot(open)) return false;
                out.addOperator(AND);
            }
            return true;
        }

        private boolean readNot(int open) {
            if (token == NOT) {
                if (open >= MOST_OPEN) return false;
                step();
                if (!readNot(open + 1)) return false;
                out.addOperator(NOT);
                return true;
            }
            if (!readSum(open)) return false;
            if (token != '<' && token != '=') return true;
            int operator = token;
            step();
            if (!readSum(open)) return false;
            out.addOperator(operator);
            return true;
        }

        private boolean readSum(int open) {
            if (!readTerm(open)) return false;
            for (int more = 0; more < MOST_BYTES && (token == '+' || token == '-'); more++) {
                int operator = token;
                step();
                if (!readTerm(open)) return false;
                out.addOperator(operator);
            }
            return true;
        }

        private boolean readTerm(int open) {
            if (!readOne(open)) return false;
            for (int more = 0; more < MOST_BYTES && token == '*'; more++) {
                step();
                if (!readOne(open)) return false;
                out.addOperator('*');
            }
            return true;
        }

        private boolean readOne(int open) {
            if (token == NUMBER) {
                out.addNumber(number);
                step();
                return true;
            }
            if (token >= WORD && token < KEYS) {
                out.addName(token - WORD);
                step();
                return true;
            }
            if (open >= MOST_OPEN) return false;
            if (token == '-') {
                step();
                if (!readOne(open + 1)) return false;
                out.addOperator(Text.MINUS);
                return true;
            }
            return accept('(') && readOr(open + 1) && accept(')');
        }

        /** The next token becomes the one that is looked at. */
        private void step() {
            while (next < size && (tape[next] == ' ' || tape[next] == '\n')) {
                next++;
            }
            tokenStart = next;
            if (next >= size) {
                token = END;
            } else if (isDigit(tape[next])) {
                stepNumber();
            } else if (isLetter(tape[next])) {
                stepWord();
            } else {
                token = SIGNS.indexOf((char) tape[next]) >= 0 ? tape[next] : WRONG;
                next++;
            }
        }

        private void stepNumber() {
            number = 0;
            while (next < size && isDigit(tape[next])) {
                if (next - tokenStart < DIGITS) number = number * 10 + tape[next] - '0';
                next++;
            }
            token = next - tokenStart > DIGITS ? WRONG : NUMBER;
        }

        private void stepWord() {
            while (next < size && isLetter(tape[next])) {
                next++;
            }
            token = WRONG;
            for (int w = 0; w < WORD_COUNT; w++) {
                if (isWord(w)) token = WORD + w;
            }
        }

        private boolean isWord(int w) {
            if (next - tokenStart > WORD_SIZE) return false;
            for (int i = 0; i < WORD_SIZE; i++) {
                int letter = tokenStart + i < next ? tape[tokenStart + i] : ' ';
                if (WORDS.charAt(w * WORD_SIZE + i) != letter) return false;
            }
            return true;
        }

        private static boolean isDigit(int letter) {
            return letter >= '0' && letter <= '9';
        }

        private static boolean isLetter(int letter) {
            return letter >= 'a' && letter <= 'z';
        }
    }
}
