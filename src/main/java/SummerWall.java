/** A wall by the first of summer: a builder's wager, its weather, its hindrances, and what can be foretold of it. */
public final class SummerWall {
    public static final int BAD = -1, NOT = -2, FULL = -3, NONE = -4, NULL = -11, CAST = -12, INDEX = -13, SIZE = -14;

    private static final int MOST_STONES = 200, MOST_DAYS = 40, MOST_BUILDERS = 4, MOST_HINDRANCES = 6, OATHS = 4;
    private static final int MOST_LETTERS = 60, MOST_ITEMS = 24, SHEETS = 4, LANES = 4;
    private static final int WEATHERS = 3, FAIR = 0, FROST = 1, THAW = 2;
    private static final int KINDS = 5, PLAIN = 0, HORSED = 1, BLIND = 2, GIANT = 3, PAID = 4;
    private static final int MILLION = 1000000, IN_TEN = 10, NOBODY = -1;
    private static final int MOST_MORE_PACE = 20, MOST_SOONEST = 99, MOST_MEAN = 6, MOST_ROW = 8;
    private static final int FIRST_FAULT = -20, FINE = 0;

    private final Site now = new Site();
    private final Site kept = new Site();
    private final Tape tape = new Tape();
    private final Foretold foretold = new Foretold();
    private final Sheet[] sheets = new Sheet[SHEETS];
    private boolean imaged;

    public SummerWall() {
        for (int k = 0; k < SHEETS; k++) {
            sheets[k] = new Sheet();
        }
    }

    // ---- 1 builders, hindrances

    public int builder(int kind, int pace, int horse) {
        if (!within(kind, 0, KINDS - 1) || !within(pace, 1, 9) || !within(horse, 0, 9)) {
            return BAD;
        }
        if (now.builderCount >= MOST_BUILDERS) {
            return FULL;
        }
        now.addBuilder(kind, pace, horse);
        now.pastCount = 0;
        return now.builderCount - 1;
    }

    public int of(int builder, int what) {
        if (!within(builder, 0, now.builderCount - 1)) {
            return BAD;
        }
        Plain one = now.builders[builder];
        if (one == null) {
            return BAD;
        }
        switch (what) {
            case 0: return one.kind();
            case 1: return one.pace;
            case 2: return one.horse;
            case 3: return one.hauls(now.laid, 0);
            case 4: return one.lays(FAIR, now.laid, 0);
            case 5: return one.lays(FROST, now.laid, 0);
            case 6: return one.lays(THAW, now.laid, 0);
            default: return BAD;
        }
    }

    public int wall(int what, int v) {
        switch (what) {
            case 0: return changeStones(v);
            case 1: return changeDays(v);
            case 2: return changeFrost(v);
            case 3: return changeThaw(v);
            default: return BAD;
        }
    }

    private int changeStones(int v) {
        if (!within(v, 1, MOST_STONES)) {
            return BAD;
        }
        if (v < now.laid) {
            return NOT;
        }
        int was = now.stones;
        now.stones = v;
        return was;
    }

    private int changeDays(int v) {
        if (!within(v, 1, MOST_DAYS)) {
            return BAD;
        }
        if (v < now.day) {
            return NOT;
        }
        int was = now.days;
        now.days = v;
        return was;
    }

    private int changeFrost(int v) {
        if (!within(v, 0, IN_TEN)) {
            return BAD;
        }
        if (v + now.thaw > IN_TEN) {
            return NOT;
        }
        int was = now.frost;
        now.frost = v;
        return was;
    }

    private int changeThaw(int v) {
        if (!within(v, 0, IN_TEN)) {
            return BAD;
        }
        if (now.frost + v > IN_TEN) {
            return NOT;
        }
        int was = now.thaw;
        now.thaw = v;
        return was;
    }

    public int hindrance(int cost, int oath) {
        if (!within(cost, 1, 9) || (oath != NONE && !within(oath, 0, OATHS - 1))) {
            return BAD;
        }
        if (now.hindranceCount >= MOST_HINDRANCES) {
            return FULL;
        }
        now.addHindrance(cost, oath);
        now.pastCount = 0;
        return now.hindranceCount - 1;
    }

    public int oath(int k, int is) {
        if (!within(k, 0, OATHS - 1) || !within(is, 0, 1)) {
            return BAD;
        }
        int was = (now.sworn >> k) & 1;
        now.sworn = (now.sworn & ~(1 << k)) | (is << k);
        return was;
    }

    public int type(int letter) {
        if (!within(letter, 32, 126)) {
            return BAD;
        }
        if (tape.length >= MOST_LETTERS) {
            return FULL;
        }
        tape.append((char) letter);
        return tape.length;
    }

    public int bargain() {
        boolean whole = tape.read();
        tape.length = 0;
        if (!whole) {
            return FIRST_FAULT - tape.fault;
        }
        now.begin(tape);
        return now.builderCount;
    }

    public int count(int what) {
        switch (what) {
            case 0: return now.builderCount;
            case 1: return now.hindranceCount;
            case 2: return now.stones;
            case 3: return now.days;
            case 4: return now.frost;
            case 5: return now.thaw;
            case 6: return now.day;
            case 7: return now.laid;
            case 8: return now.used;
            case 9: return now.costToday();
            case 10: return now.broken;
            case 11: return now.sworn;
            case 12: return now.pastCount;
            default: return BAD;
        }
    }

    // ---- what is done

    public int day(int weather) {
        if (!within(weather, 0, WEATHERS - 1)) {
            return BAD;
        }
        if (now.isSummer()) {
            return FULL;
        }
        now.remember();
        return now.pass(weather);
    }

    public int use(int hindrance) {
        if (!within(hindrance, 0, now.hindranceCount - 1)) {
            return BAD;
        }
        if (now.isUsed(hindrance)) {
            return NOT;
        }
        if (now.isSummer()) {
            return FULL;
        }
        now.remember();
        now.hinder(hindrance);
        return now.costToday();
    }

    public int drift(int n) {
        if (!within(n, 1, MOST_DAYS)) {
            return BAD;
        }
        if (now.isSummer()) {
            return FULL;
        }
        int laid = 0;
        for (int k = 0; k < n && !now.isSummer(); k++) {
            // Remembered ahead of the draw, so that an undone day gives its draw back.
            now.remember();
            laid += now.pass(now.drawWeather());
        }
        return laid;
    }

    public int undo() {
        if (now.pastCount <= 0) {
            return NONE;
        }
        now.recall();
        return now.pastCount;
    }

    public int seed(int v) {
        if (v < 0) {
            return BAD;
        }
        int was = now.draw;
        now.draw = v;
        return was;
    }

    // ---- 2 foretold

    public int odds() {
        return foretold.oddsNow(now, NOBODY, 0);
    }

    public int oddsAt(int day, int laid) {
        if (!within(day, 0, now.days) || !within(laid, 0, now.stones)) {
            return BAD;
        }
        return foretold.oddsFrom(now, day, laid);
    }

    public int sure(int s) {
        if (!within(s, 0, MILLION)) {
            return BAD;
        }
        return foretold.firstSureDay(now, s);
    }

    public int pace(int builder, int s) {
        if (!within(builder, 0, now.builderCount - 1) || !within(s, 0, MILLION)) {
            return BAD;
        }
        // Odds never fall as pace grows, so halving finds how many of 0 .. 20 are too little.
        int tooLittle = 0;
        for (int step = 16; step > 0; step /= 2) {
            int tried = tooLittle + step - 1;
            if (tried <= MOST_MORE_PACE && foretold.oddsNow(now, builder, tried) < s) {
                tooLittle += step;
            }
        }
        return tooLittle <= MOST_MORE_PACE ? tooLittle : NONE;
    }

    public int plan(int s, int what) {
        if (!within(s, 0, MILLION) || !within(what, 0, 1)) {
            return BAD;
        }
        int set = foretold.fewestHindrances(now, s);
        if (set < 0) {
            return NONE;
        }
        return what == 0 ? Integer.bitCount(set) : set;
    }

    public int best(int hindrance, int what) {
        if (!within(hindrance, 0, now.hindranceCount - 1) || !within(what, 0, 1)) {
            return BAD;
        }
        if (now.isUsed(hindrance)) {
            return NOT;
        }
        if (now.isSummer()) {
            return NONE;
        }
        foretold.findBestDay(now, now.costOf(1 << hindrance));
        return what == 0 ? foretold.bestDay : foretold.bestOdds;
    }

    public int soonest(int weather) {
        if (!within(weather, 0, WEATHERS - 1)) {
            return BAD;
        }
        int laid = now.laid;
        for (int k = 0; k <= MOST_SOONEST; k++) {
            if (laid >= now.stones) {
                return k;
            }
            laid = now.laidBehind(weather, laid, k == 0 ? now.costToday() : 0);
        }
        return NONE;
    }

    public int mean(int n, int what) {
        if (!within(n, 0, MOST_MEAN) || n > now.days - now.day || !within(what, 0, 1)) {
            return BAD;
        }
        int above = foretold.sumOfLaid(now, n);
        int below = 1;
        for (int k = 0; k < n; k++) {
            below *= IN_TEN;
        }
        int shared = commonDivisor(above, below);
        if (shared <= 0) {
            return BAD;
        }
        return (what == 0 ? above : below) / shared;
    }

    public int image() {
        kept.becomes(now);
        imaged = true;
        return 1;
    }

    public int restore() {
        if (!imaged) {
            return NONE;
        }
        now.becomes(kept);
        return 1;
    }

    // ---- 3 sheets

    public int weather(int sheet, int lane, int i, int n, int d) {
        if (!isSheet(sheet) || !isLane(lane) || !within(n, 1, MOST_ROW) || !within(d, -1, n - 1)) {
            return BAD;
        }
        int found = sheets[sheet].find(lane, i, n);
        if (found != FINE) {
            return found;
        }
        if (n > now.days - now.day) {
            return NOT;
        }
        return weatherOf(sheets[sheet].items, i, n, d);
    }

    private int weatherOf(long[] row, int i, int n, int d) {
        int laid = now.laid;
        int rows = 1;
        int asked = 0;
        for (int k = 0; k < n; k++) {
            int fitting = fittingWeathers(laid, row[i + k], k == 0 ? now.costToday() : 0);
            if (fitting == 0) {
                return 0;
            }
            rows *= Integer.bitCount(fitting);
            if (k == d) {
                asked = fitting;
            }
            laid = (int) row[i + k];
        }
        return d < 0 ? rows : asked;
    }

    private int fittingWeathers(int laid, long told, int cost) {
        int fitting = 0;
        for (int w = 0; w < WEATHERS; w++) {
            if (now.laidBehind(w, laid, cost) == told) {
                fitting |= 1 << w;
            }
        }
        return fitting;
    }

    public int film(int weather, int n, int sheet, int lane, int i) {
        if (!within(weather, 0, WEATHERS - 1) || !within(n, 1, MOST_ITEMS) || !isSheet(sheet) || !isLane(lane)) {
            return BAD;
        }
        int found = sheets[sheet].find(lane, i, n);
        if (found != FINE) {
            return found;
        }
        int laid = now.laid;
        for (int k = 0; k < n; k++) {
            laid = now.laidBehind(weather, laid, k == 0 ? now.costToday() : 0);
            sheets[sheet].put(i + k, laid);
        }
        return n;
    }

    public int sheet(int sheet, int lane, int n) {
        if (!isSheet(sheet) || !isLane(lane) || n > MOST_ITEMS) {
            return BAD;
        }
        if (n < 0) {
            return SIZE;
        }
        sheets[sheet].renew(lane, n);
        return n;
    }

    public int drop(int sheet) {
        if (!isSheet(sheet)) {
            return BAD;
        }
        if (!sheets[sheet].held) {
            return NULL;
        }
        sheets[sheet].held = false;
        return sheets[sheet].size;
    }

    public int item(int sheet, int lane, int i, long v) {
        if (!isSheet(sheet) || !isLane(lane)) {
            return BAD;
        }
        int found = sheets[sheet].find(lane, i, 1);
        if (found != FINE) {
            return found;
        }
        sheets[sheet].put(i, v);
        return 1;
    }

    public int copy(int from, int i, int to, int j, int n) {
        if (!isSheet(from) || !isSheet(to)) {
            return BAD;
        }
        Sheet source = sheets[from];
        Sheet goal = sheets[to];
        if (!source.held || !goal.held) {
            return NULL;
        }
        if (source.lane != goal.lane) {
            return CAST;
        }
        if (!source.has(i, n) || !goal.has(j, n)) {
            return INDEX;
        }
        System.arraycopy(source.items, i, goal.items, j, n);
        return n;
    }

    // ---- small things that many calls need

    private static boolean within(int v, int least, int most) {
        return v >= least && v <= most;
    }

    private static boolean isSheet(int sheet) {
        return within(sheet, 0, SHEETS - 1);
    }

    private static boolean isLane(int lane) {
        return within(lane, 0, LANES - 1);
    }

    private static int commonDivisor(int a, int b) {
        int large = a;
        int small = b;
        // A hundred steps are more than two ints can ever need.
        for (int k = 0; k < 100 && small != 0; k++) {
            int left = large % small;
            large = small;
            small = left;
        }
        return large;
    }

    /** A builder who hauls his pace; the other kinds stand below him. */
    private static class Plain {
        final int pace;
        final int horse;

        Plain(int pace, int horse) {
            this.pace = pace;
            this.horse = horse;
        }

        static Plain ofKind(int kind, int pace, int horse) {
            switch (kind) {
                case HORSED: return new Horsed(pace, horse);
                case BLIND: return new Blind(pace, horse);
                case GIANT: return new Giant(pace, horse);
                case PAID: return new Paid(pace, horse);
                default: return new Plain(pace, horse);
            }
        }

        int kind() {
            return PLAIN;
        }

        /** What he hauls if his pace were so much more. */
        int hauls(int laid, int more) {
            return pace + more;
        }

        int laysInFrost(int hauled) {
            return hauled / 2;
        }

        int laysInThaw(int hauled) {
            return hauled >= 1 ? hauled - 1 : 0;
        }

        final int lays(int weather, int laid, int more) {
            int hauled = hauls(laid, more);
            switch (weather) {
                case FROST: return laysInFrost(hauled);
                case THAW: return laysInThaw(hauled);
                default: return hauled;
            }
        }
    }

    private static class Horsed extends Plain {
        Horsed(int pace, int horse) {
            super(pace, horse);
        }

        int kind() {
            return HORSED;
        }

        int hauls(int laid, int more) {
            return pace + more + horse;
        }
    }

    private static final class Blind extends Plain {
        Blind(int pace, int horse) {
            super(pace, horse);
        }

        int kind() {
            return BLIND;
        }

        int laysInFrost(int hauled) {
            return hauled;
        }
    }

    private static final class Giant extends Horsed {
        Giant(int pace, int horse) {
            super(pace, horse);
        }

        int kind() {
            return GIANT;
        }

        int hauls(int laid, int more) {
            return 2 * super.hauls(laid, more);
        }

        int laysInThaw(int hauled) {
            int laid = super.laysInThaw(hauled);
            return laid >= 2 ? laid - 2 : 0;
        }
    }

    private static final class Paid extends Plain {
        Paid(int pace, int horse) {
            super(pace, horse);
        }

        int kind() {
            return PAID;
        }

        int hauls(int laid, int more) {
            return pace + more + laid / 10;
        }
    }

    /** All that an image keeps: the wall, who builds it, what hinders, and what may be undone. */
    private static final class Site {
        static final int KNOWN = 8, PARTS = 6;

        int stones = 60;
        int days = 20;
        int frost = 2;
        int thaw = 1;
        int day;
        int laid;
        int used;
        int usedToday;
        int broken;
        int sworn = (1 << OATHS) - 1;
        int draw = 1;
        int builderCount;
        int hindranceCount;
        int pastCount;
        final Plain[] builders = new Plain[MOST_BUILDERS];
        final int[] costs = new int[MOST_HINDRANCES];
        final int[] oaths = new int[MOST_HINDRANCES];
        /** What was ahead of each known deed, PARTS numbers a deed, the oldest first. */
        final int[] past = new int[KNOWN * PARTS];

        boolean isSummer() {
            return day >= days;
        }

        boolean isUsed(int hindrance) {
            return ((used >> hindrance) & 1) != 0;
        }

        void addBuilder(int kind, int pace, int horse) {
            if (builderCount < MOST_BUILDERS) {
                builders[builderCount] = Plain.ofKind(kind, pace, horse);
                builderCount++;
            }
        }

        void addHindrance(int cost, int oath) {
            if (hindranceCount < MOST_HINDRANCES) {
                costs[hindranceCount] = cost;
                oaths[hindranceCount] = oath;
                hindranceCount++;
            }
        }

        /** What all lay together, one of them (or nobody) with so much more pace. */
        int layTogether(int weather, int laidAhead, int faster, int more) {
            int sum = 0;
            for (int k = 0; k < builderCount; k++) {
                Plain one = builders[k];
                if (one != null) {
                    sum += one.lays(weather, laidAhead, k == faster ? more : 0);
                }
            }
            return sum;
        }

        int laidBehind(int weather, int laidAhead, int cost) {
            int left = layTogether(weather, laidAhead, NOBODY, 0) - cost;
            return left <= 0 ? laidAhead : Math.min(stones, laidAhead + left);
        }

        int costOf(int set) {
            int sum = 0;
            for (int k = 0; k < hindranceCount; k++) {
                if (((set >> k) & 1) != 0) {
                    sum += costs[k];
                }
            }
            return sum;
        }

        int costToday() {
            return costOf(usedToday);
        }

        /** The hindrances that break an oath which is sworn. */
        int forbidden() {
            int set = 0;
            for (int k = 0; k < hindranceCount; k++) {
                if (breaksSworn(k)) {
                    set |= 1 << k;
                }
            }
            return set;
        }

        boolean breaksSworn(int hindrance) {
            int oath = oaths[hindrance];
            return oath >= 0 && ((sworn >> oath) & 1) != 0;
        }

        void hinder(int hindrance) {
            used |= 1 << hindrance;
            usedToday |= 1 << hindrance;
            if (breaksSworn(hindrance)) {
                broken |= 1 << oaths[hindrance];
            }
        }

        /** A day goes by: how many stones were laid. */
        int pass(int weather) {
            int ahead = laid;
            laid = laidBehind(weather, ahead, costToday());
            usedToday = 0;
            day++;
            return laid - ahead;
        }

        int drawWeather() {
            draw = (int) ((draw * 1103515245L + 12345L) & 0x7fffffffL);
            int lot = draw / 65536 % IN_TEN;
            if (lot < frost) {
                return FROST;
            }
            return lot < frost + thaw ? THAW : FAIR;
        }

        void remember() {
            if (pastCount >= KNOWN) {
                System.arraycopy(past, PARTS, past, 0, (KNOWN - 1) * PARTS);
                pastCount = KNOWN - 1;
            }
            int at = pastCount * PARTS;
            past[at] = day;
            past[at + 1] = laid;
            past[at + 2] = used;
            past[at + 3] = usedToday;
            past[at + 4] = broken;
            past[at + 5] = draw;
            pastCount++;
        }

        void recall() {
            if (pastCount <= 0) {
                return;
            }
            pastCount--;
            int at = pastCount * PARTS;
            day = past[at];
            laid = past[at + 1];
            used = past[at + 2];
            usedToday = past[at + 3];
            broken = past[at + 4];
            draw = past[at + 5];
        }

        void begin(Tape told) {
            stones = told.stones;
            days = told.days;
            day = 0;
            laid = 0;
            used = 0;
            usedToday = 0;
            broken = 0;
            pastCount = 0;
            builderCount = 0;
            hindranceCount = 0;
            for (int k = 0; k < told.builderCount; k++) {
                addBuilder(told.kinds[k], told.paces[k], told.horses[k]);
            }
            for (int k = 0; k < told.hindranceCount; k++) {
                addHindrance(told.costs[k], told.oaths[k]);
            }
        }

        void becomes(Site other) {
            stones = other.stones;
            days = other.days;
            frost = other.frost;
            thaw = other.thaw;
            day = other.day;
            laid = other.laid;
            used = other.used;
            usedToday = other.usedToday;
            broken = other.broken;
            sworn = other.sworn;
            draw = other.draw;
            builderCount = other.builderCount;
            hindranceCount = other.hindranceCount;
            pastCount = other.pastCount;
            // Builders never change, so both sites may hold the same ones.
            for (int k = 0; k < MOST_BUILDERS; k++) {
                builders[k] = other.builders[k];
            }
            System.arraycopy(other.costs, 0, costs, 0, MOST_HINDRANCES);
            System.arraycopy(other.oaths, 0, oaths, 0, MOST_HINDRANCES);
            System.arraycopy(other.past, 0, past, 0, KNOWN * PARTS);
        }
    }

    /** The tape, and what a bargain on it says. */
    private static final class Tape {
        static final char END = 0;
        static final int MOST_DIGITS = 3;

        final char[] letters = new char[MOST_LETTERS];
        final int[] kinds = new int[MOST_BUILDERS];
        final int[] paces = new int[MOST_BUILDERS];
        final int[] horses = new int[MOST_BUILDERS];
        final int[] costs = new int[MOST_HINDRANCES];
        final int[] oaths = new int[MOST_HINDRANCES];
        int length;
        int stones;
        int days;
        int builderCount;
        int hindranceCount;
        /** The place of the fault, if the last reading found one. */
        int fault;
        private int at;

        void append(char letter) {
            if (length < MOST_LETTERS) {
                letters[length] = letter;
                length++;
            }
        }

        boolean read() {
            at = 0;
            builderCount = 0;
            hindranceCount = 0;
            stones = readNumber(MOST_STONES);
            if (stones < 0 || !readSign(',')) {
                return false;
            }
            days = readNumber(MOST_DAYS);
            if (days < 0 || !readSign(';') || !readBuilders()) {
                return false;
            }
            if (next() == END) {
                return true;
            }
            return readSign(';') && readHindrances();
        }

        private boolean readBuilders() {
            for (int k = 0; k < MOST_BUILDERS; k++) {
                if (k > 0) {
                    if (next() != ',') {
                        return true;
                    }
                    at++;
                }
                if (!readBuilder()) {
                    return false;
                }
            }
            return true;
        }

        private boolean readBuilder() {
            int kind = kindOf(next());
            if (kind < 0) {
                return failAt(at);
            }
            at++;
            int pace = readDigit(1);
            if (pace < 0) {
                return false;
            }
            int horse = readDigit(0);
            if (horse < 0 || builderCount >= MOST_BUILDERS) {
                return false;
            }
            kinds[builderCount] = kind;
            paces[builderCount] = pace;
            horses[builderCount] = horse;
            builderCount++;
            return true;
        }

        private boolean readHindrances() {
            for (int k = 0; k < MOST_HINDRANCES; k++) {
                if (k > 0 && !readSign(',')) {
                    return false;
                }
                if (!readHindrance()) {
                    return false;
                }
                if (next() == END) {
                    return true;
                }
            }
            return failAt(at);
        }

        private boolean readHindrance() {
            int cost = readDigit(1);
            if (cost < 0 || hindranceCount >= MOST_HINDRANCES) {
                return false;
            }
            int oath = next() - 'a';
            boolean breaks = within(oath, 0, OATHS - 1);
            if (breaks) {
                at++;
            }
            costs[hindranceCount] = cost;
            oaths[hindranceCount] = breaks ? oath : NONE;
            hindranceCount++;
            return true;
        }

        /**
         * A number of 1 to 3 digits, 1 at least; -1 with the fault at its first digit. A fourth digit is no more
         * of it, and is left to whatever is read next, which can't stand it.
         */
        private int readNumber(int most) {
            next();
            int start = at;
            int value = 0;
            while (at < length && at - start < MOST_DIGITS && isDigit(letters[at])) {
                value = value * 10 + (letters[at] - '0');
                at++;
            }
            if (!within(value, 1, most)) {
                failAt(start);
                return -1;
            }
            return value;
        }

        /** One digit, so much at least; -1 with the fault there. */
        private int readDigit(int least) {
            char letter = next();
            if (!isDigit(letter) || letter - '0' < least) {
                failAt(at);
                return -1;
            }
            at++;
            return letter - '0';
        }

        private boolean readSign(char sign) {
            if (next() != sign) {
                return failAt(at);
            }
            at++;
            return true;
        }

        /** The letter behind blanks, which stays to be read; END if there is none. */
        private char next() {
            while (at < length && letters[at] == ' ') {
                at++;
            }
            return at < length ? letters[at] : END;
        }

        private boolean failAt(int place) {
            fault = place;
            return false;
        }

        private static boolean isDigit(char letter) {
            return letter >= '0' && letter <= '9';
        }

        private static int kindOf(char letter) {
            switch (letter) {
                case 'p': return PLAIN;
                case 'h': return HORSED;
                case 'b': return BLIND;
                case 'g': return GIANT;
                case 'w': return PAID;
                default: return -1;
            }
        }
    }

    /** Reckons what is likely; its rows are made once and used for every call. */
    private static final class Foretold {
        static final int ROW = MOST_STONES + 1;

        /** What all lay, a row by what is laid ahead for each weather. */
        private final int[] lays = new int[WEATHERS * ROW];
        /** What is laid behind a day, likewise: one without and one with a hindrance. */
        private final int[] behind = new int[WEATHERS * ROW];
        private final int[] behindHindered = new int[WEATHERS * ROW];
        /** Odds by what is laid, on the day that was reckoned last. */
        private final int[] odds = new int[ROW];
        private final int[] oddsHindered = new int[ROW];
        /** The most that can be laid by each day, which is what fair days lay. */
        private final int[] fairPath = new int[MOST_DAYS + 1];
        private final int[] parts = new int[ROW];
        private int stones;
        private int days;
        private int frost;
        private int thaw;
        private int day;
        private int laid;
        private int cost;
        int bestDay;
        int bestOdds;

        int oddsNow(Site site, int faster, int more) {
            look(site, site.day, site.laid, site.costToday());
            reckonLays(site, faster, more);
            goBackToTomorrow();
            return oddsToday(odds, cost);
        }

        int oddsFrom(Site site, int fromDay, int fromLaid) {
            look(site, fromDay, fromLaid, 0);
            reckonLays(site, NOBODY, 0);
            goBackToTomorrow();
            return oddsToday(odds, 0);
        }

        int firstSureDay(Site site, int s) {
            look(site, site.day, site.laid, site.costToday());
            reckonLays(site, NOBODY, 0);
            startAtSummer();
            int first = NONE;
            for (int d = days; d > day; d--) {
                if (d < days) {
                    stepBack(odds, behind, d);
                }
                if (odds[fairPath[d]] >= s) {
                    first = d;
                }
            }
            return oddsToday(odds, cost) >= s ? day : first;
        }

        /** The least set of the fewest hindrances; -1: none. */
        int fewestHindrances(Site site, int s) {
            look(site, site.day, site.laid, site.costToday());
            reckonLays(site, NOBODY, 0);
            // The row of tomorrow is the same whatever is used today.
            goBackToTomorrow();
            int shut = site.used | site.forbidden();
            int fewest = -1;
            for (int set = 0; set < 1 << site.hindranceCount; set++) {
                boolean fewer = fewest < 0 || Integer.bitCount(set) < Integer.bitCount(fewest);
                if (fewer && (set & shut) == 0 && oddsToday(odds, cost + site.costOf(set)) <= s) {
                    fewest = set;
                }
            }
            return fewest;
        }

        void findBestDay(Site site, int more) {
            look(site, site.day, site.laid, site.costToday());
            reckonLays(site, NOBODY, 0);
            fillBehind(behindHindered, more);
            startAtSummer();
            bestDay = day;
            bestOdds = MILLION;
            for (int d = days - 1; d >= day; d--) {
                int then = d == day ? oddsToday(odds, cost + more) : oddsIfHindered(d);
                // From the last day on, so that of like ones the first stays.
                if (then <= bestOdds) {
                    bestOdds = then;
                    bestDay = d;
                }
                stepBack(odds, behind, d);
            }
        }

        /** Odds now if day d, which is not today, were hindered; the row of odds is that of the day behind it. */
        private int oddsIfHindered(int d) {
            System.arraycopy(odds, 0, oddsHindered, 0, ROW);
            stepBack(oddsHindered, behindHindered, d);
            for (int k = d - 1; k > day; k--) {
                stepBack(oddsHindered, behind, k);
            }
            return oddsToday(oddsHindered, cost);
        }

        /** What is laid behind n days, added over all weathers by their parts of ten. */
        int sumOfLaid(Site site, int n) {
            look(site, site.day, site.laid, site.costToday());
            reckonLays(site, NOBODY, 0);
            for (int l = 0; l < ROW; l++) {
                parts[l] = 0;
            }
            parts[laid] = 1;
            for (int k = 0; k < n; k++) {
                spread(k == 0 ? cost : 0);
            }
            int sum = 0;
            for (int l = laid; l <= stones; l++) {
                sum += l * parts[l];
            }
            return sum;
        }

        /** From above down: a day only adds to what is laid, so what it adds to has been moved already. */
        private void spread(int costThen) {
            for (int l = stones; l >= laid; l--) {
                int part = parts[l];
                if (part != 0) {
                    parts[l] = 0;
                    parts[laidBehind(FAIR, l, costThen)] += part * (IN_TEN - frost - thaw);
                    parts[laidBehind(FROST, l, costThen)] += part * frost;
                    parts[laidBehind(THAW, l, costThen)] += part * thaw;
                }
            }
        }

        private void look(Site site, int fromDay, int fromLaid, int costThen) {
            stones = site.stones;
            days = site.days;
            frost = site.frost;
            thaw = site.thaw;
            day = fromDay;
            laid = fromLaid;
            cost = costThen;
        }

        private void reckonLays(Site site, int faster, int more) {
            for (int w = 0; w < WEATHERS; w++) {
                for (int l = laid; l <= stones; l++) {
                    lays[w * ROW + l] = site.layTogether(w, l, faster, more);
                }
            }
            fillBehind(behind, 0);
            fairPath[day] = laid;
            for (int d = day; d < days; d++) {
                fairPath[d + 1] = laidBehind(FAIR, fairPath[d], d == day ? cost : 0);
            }
        }

        private void fillBehind(int[] table, int costThen) {
            for (int w = 0; w < WEATHERS; w++) {
                for (int l = laid; l <= stones; l++) {
                    table[w * ROW + l] = laidBehind(w, l, costThen);
                }
            }
        }

        private int laidBehind(int weather, int laidAhead, int costThen) {
            int left = lays[weather * ROW + laidAhead] - costThen;
            return left <= 0 ? laidAhead : Math.min(stones, laidAhead + left);
        }

        private void startAtSummer() {
            for (int l = laid; l < stones; l++) {
                odds[l] = 0;
            }
            odds[stones] = MILLION;
        }

        private void goBackToTomorrow() {
            startAtSummer();
            for (int d = days - 1; d > day; d--) {
                stepBack(odds, behind, d);
            }
        }

        /**
         * From the row of the day behind d to that of d, from below up: odds need only odds behind of as much
         * laid or more. What is above the fair path can't come to be, and is left alone.
         */
        private void stepBack(int[] row, int[] table, int d) {
            int most = Math.min(fairPath[d], stones - 1);
            int fair = IN_TEN - frost - thaw;
            for (int l = laid; l <= most; l++) {
                row[l] = (row[table[l]] * fair + row[table[ROW + l]] * frost + row[table[2 * ROW + l]] * thaw) / IN_TEN;
            }
        }

        /** Odds of the day that is looked from, the row being that of the day behind it. */
        private int oddsToday(int[] row, int costThen) {
            if (laid >= stones) {
                return MILLION;
            }
            if (day >= days) {
                return 0;
            }
            return (row[laidBehind(FAIR, laid, costThen)] * (IN_TEN - frost - thaw)
                + row[laidBehind(FROST, laid, costThen)] * frost
                + row[laidBehind(THAW, laid, costThen)] * thaw) / IN_TEN;
        }
    }

    /** A sheet; what it holds lies in one row of longs, each cut to its lane. */
    private static final class Sheet {
        boolean held;
        int lane;
        int size;
        final long[] items = new long[MOST_ITEMS];

        void renew(int newLane, int n) {
            held = true;
            lane = newLane;
            size = n;
            for (int k = 0; k < MOST_ITEMS; k++) {
                items[k] = 0;
            }
        }

        /** What the machine would find wrong with n items from i on, taken as a row of a lane. */
        int find(int asLane, int i, int n) {
            if (!held) {
                return NULL;
            }
            if (lane != asLane) {
                return CAST;
            }
            return has(i, n) ? FINE : INDEX;
        }

        boolean has(int i, int n) {
            return i >= 0 && n >= 0 && i <= size - n;
        }

        void put(int i, long v) {
            if (within(i, 0, size - 1)) {
                items[i] = cut(v);
            }
        }

        private long cut(long v) {
            switch (lane) {
                case 0: return (byte) v;
                case 1: return (short) v;
                case 2: return (int) v;
                default: return v;
            }
        }
    }
}
