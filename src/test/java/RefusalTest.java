/** Every refused call, from states in which there is much to be changed: its answer, and that it has changed nothing. */
public final class RefusalTest extends Edges {
    private static final Due due = new Due("RefusalTest");

    /** In midwinter nothing is full: 3 builders, 5 hindrances, a tape of 6; sheets 0, 1 alike, 2 of another lane, 3 missing. */
    private static final Doing MIDWINTER = x -> {
        tell(x, "50,9;p30,w25,g12;3a,2b,4,1c,5d");
        x.wall(2, 3);
        x.wall(3, 2);
        x.oath(3, 0);
        x.seed(77);
        x.use(0);
        x.image();
        x.day(FROST);
        x.drift(2);
        x.use(4);
        x.use(1);
        type(x, "7,5;p1");
        x.sheet(0, 0, 3);
        x.sheet(1, 0, 2);
        x.sheet(2, 3, 0);
        for (int k = 0; k < 3; k++) {
            x.item(0, 0, k, k + 1);
        }
        x.item(1, 0, 0, 4);
        x.item(1, 0, 1, 5);
    };

    /** In summer all is full: 4 builders, 6 hindrances, a tape of 60; more was done than is known. */
    private static final Doing SUMMER = x -> {
        tell(x, "60,7;p30,h11,b22,w12;1,2a,3b,4c,5d,6");
        x.image();
        x.use(1);
        x.drift(3);
        x.use(5);
        x.day(FROST);
        x.use(0);
        x.drift(40);
        type(x, "7,5;p10" + " ".repeat(53));
        x.sheet(0, 0, 9);
        x.film(FAIR, 9, 0, 0, 0);
    };

    /** A new wall with nothing in it. */
    private static final Doing NEW = x -> { };

    private static final String MIDWINTER_SEEN = seen(MIDWINTER), SUMMER_SEEN = seen(SUMMER), NEW_SEEN = seen(NEW);

    public static void main(String[] args) {
        due.sentence("What is refused changes nothing, but as told.");
        theStates();
        builders();
        walls();
        hindrancesAndOaths();
        tape();
        deeds();
        foretold();
        images();
        sheets();
        manySheetCalls();
        due.sentence("Answers below 0, of several the first that a call names");
        firstOfSeveral();
        due.sentence("SIZE in this order");
        firstOfTheMachines();
        due.end();
    }

    private static void theStates() {
        counts(due, "midwinter", behind(MIDWINTER), 3, 5, 50, 9, 3, 2, 3, behind(MIDWINTER).count(7), 19, 7, 3, 7, 6);
        due.that("stones are laid, but not all", behind(MIDWINTER).count(7) > 1 && behind(MIDWINTER).count(7) < 50);
        counts(due, "summer", behind(SUMMER), 4, 6, 60, 7, 2, 1, 7, behind(SUMMER).count(7), 35, 0, 1, 15, 8);
        due.that("they are not alike", !MIDWINTER_SEEN.equals(SUMMER_SEEN) && !SUMMER_SEEN.equals(NEW_SEEN));
    }

    private static void midwinter(String what, int want, Asking call) {
        refused("midwinter " + what, want, MIDWINTER, MIDWINTER_SEEN, call);
    }

    private static void summer(String what, int want, Asking call) {
        refused("summer " + what, want, SUMMER, SUMMER_SEEN, call);
    }

    private static void atFirst(String what, int want, Asking call) {
        refused("new " + what, want, NEW, NEW_SEEN, call);
    }

    private static void refused(String what, int want, Doing state, String before, Asking call) {
        due.is(what, call.on(behind(state)), want);
        due.same(what, seen(x -> { state.on(x); call.on(x); }), before);
    }

    private static void builders() {
        int[][] bad = {{-1, 1, 0}, {5, 1, 0}, {0, 0, 0}, {0, 10, 0}, {0, 1, -1}, {0, 1, 10}, {LOW, HIGH, LOW}};
        for (int[] b : bad) {
            midwinter("builder", BAD, x -> x.builder(b[0], b[1], b[2]));
            summer("builder", BAD, x -> x.builder(b[0], b[1], b[2]));
        }
        summer("builder", FULL, x -> x.builder(3, 9, 9));
        int[][] none = {{-1, 0}, {3, 0}, {0, -1}, {0, 7}, {HIGH, 0}, {0, LOW}};
        for (int[] b : none) {
            midwinter("of", BAD, x -> x.of(b[0], b[1]));
        }
        summer("of", BAD, x -> x.of(4, 0));
        atFirst("of", BAD, x -> x.of(0, 0));
    }

    private static void walls() {
        int[][] bad = {{-1, 5}, {4, 5}, {0, 0}, {0, 201}, {1, 0}, {1, 41}, {2, -1}, {2, 11}, {3, -1}, {3, 11}, {LOW, 5}, {0, HIGH}};
        for (int[] b : bad) {
            midwinter("wall", BAD, x -> x.wall(b[0], b[1]));
        }
        midwinter("wall: stones", NOT, x -> x.wall(0, x.count(7) - 1));
        midwinter("wall: days", NOT, x -> x.wall(1, 2));
        midwinter("wall: frost", NOT, x -> x.wall(2, 9));
        midwinter("wall: thaw", NOT, x -> x.wall(3, 8));
        summer("wall: stones", NOT, x -> x.wall(0, 1));
        summer("wall: days", NOT, x -> x.wall(1, 6));
        midwinter("count", BAD, x -> x.count(-1));
        midwinter("count", BAD, x -> x.count(13));
    }

    private static void hindrancesAndOaths() {
        int[][] bad = {{0, NONE}, {10, NONE}, {5, -1}, {5, 4}, {5, -5}, {HIGH, LOW}};
        for (int[] b : bad) {
            midwinter("hindrance", BAD, x -> x.hindrance(b[0], b[1]));
            summer("hindrance", BAD, x -> x.hindrance(b[0], b[1]));
        }
        summer("hindrance", FULL, x -> x.hindrance(9, NONE));
        int[][] none = {{-1, 0}, {4, 0}, {0, -1}, {0, 2}, {32, 0}, {LOW, HIGH}};
        for (int[] b : none) {
            midwinter("oath", BAD, x -> x.oath(b[0], b[1]));
        }
    }

    private static void tape() {
        int[] bad = {31, 127, -1, LOW, HIGH};
        for (int b : bad) {
            midwinter("type", BAD, x -> x.type(b));
            summer("type", BAD, x -> x.type(b));
        }
        summer("type", FULL, x -> x.type('7'));
        atFirst("bargain", -20, x -> x.bargain());
        // Told: the tape is empty then, all else stays.
        due.is("a fault", behind(MIDWINTER).bargain(), -26);
        due.same("all but the tape", seenButTape(x -> { MIDWINTER.on(x); x.bargain(); }), seenButTape(MIDWINTER));
        due.is("the tape", behind(x -> { MIDWINTER.on(x); x.bargain(); }).type('7'), 1);
    }

    private static void deeds() {
        int[] noWeathers = {-1, 3, LOW, HIGH};
        for (int w : noWeathers) {
            midwinter("day", BAD, x -> x.day(w));
            summer("day", BAD, x -> x.day(w));
        }
        summer("day", FULL, x -> x.day(FAIR));
        int[] noHindrances = {-1, 5, 32, LOW, HIGH};
        for (int h : noHindrances) {
            midwinter("use", BAD, x -> x.use(h));
        }
        midwinter("use, today", NOT, x -> x.use(1));
        midwinter("use, long ago", NOT, x -> x.use(0));
        summer("use", BAD, x -> x.use(6));
        summer("use", NOT, x -> x.use(5));
        summer("use", FULL, x -> x.use(2));
        int[] noDays = {0, 41, -1, LOW, HIGH};
        for (int n : noDays) {
            midwinter("drift", BAD, x -> x.drift(n));
            summer("drift", BAD, x -> x.drift(n));
        }
        summer("drift", FULL, x -> x.drift(1));
        atFirst("undo", NONE, x -> x.undo());
        midwinter("seed", BAD, x -> x.seed(-1));
        midwinter("seed", BAD, x -> x.seed(LOW));
    }

    private static void foretold() {
        int[][] noOdds = {{-1, 0}, {10, 0}, {0, -1}, {0, 51}, {HIGH, LOW}};
        for (int[] b : noOdds) {
            midwinter("oddsAt", BAD, x -> x.oddsAt(b[0], b[1]));
        }
        int[] noParts = {-1, MILLION + 1, LOW, HIGH};
        for (int s : noParts) {
            midwinter("sure", BAD, x -> x.sure(s));
            midwinter("pace", BAD, x -> x.pace(0, s));
            midwinter("plan", BAD, x -> x.plan(s, 0));
        }
        midwinter("pace", BAD, x -> x.pace(3, 0));
        midwinter("pace", BAD, x -> x.pace(-1, 0));
        midwinter("plan", BAD, x -> x.plan(0, 2));
        midwinter("plan", BAD, x -> x.plan(0, -1));
        midwinter("best", BAD, x -> x.best(5, 0));
        midwinter("best", BAD, x -> x.best(2, 2));
        midwinter("best", NOT, x -> x.best(0, 0));
        summer("sure", NONE, x -> x.sure(MILLION));
        summer("pace", NONE, x -> x.pace(0, MILLION));
        midwinter("plan", NONE, x -> { x.wall(1, 40); int p = x.plan(0, 0); x.wall(1, 9); return p; });
        summer("best", NONE, x -> x.best(2, 0));
        summer("best", NOT, x -> x.best(5, 0));
        midwinter("soonest", BAD, x -> x.soonest(3));
        midwinter("soonest", BAD, x -> x.soonest(-1));
        atFirst("soonest", NONE, x -> x.soonest(FAIR));
        midwinter("mean", BAD, x -> x.mean(7, 0));
        midwinter("mean", BAD, x -> x.mean(-1, 0));
        midwinter("mean", BAD, x -> x.mean(6, 2));
        summer("mean", BAD, x -> x.mean(1, 0));
    }

    private static void images() {
        atFirst("restore", NONE, x -> x.restore());
    }

    private static void sheets() {
        int[][] noSheets = {{-1, 0, 1}, {4, 0, 1}, {0, -1, 1}, {0, 4, 1}, {0, 0, 25}, {1, 0, HIGH}};
        for (int[] b : noSheets) {
            midwinter("sheet", BAD, x -> x.sheet(b[0], b[1], b[2]));
        }
        midwinter("sheet", SIZE, x -> x.sheet(0, 1, -1));
        midwinter("sheet", SIZE, x -> x.sheet(3, 1, LOW));
        midwinter("drop", BAD, x -> x.drop(4));
        midwinter("drop", BAD, x -> x.drop(-1));
        midwinter("drop", NULL, x -> x.drop(3));
        midwinter("item", BAD, x -> x.item(4, 0, 0, 9));
        midwinter("item", BAD, x -> x.item(0, 4, 0, 9));
        midwinter("item", NULL, x -> x.item(3, 0, 0, 9));
        midwinter("item", CAST, x -> x.item(0, 1, 0, 9));
        midwinter("item", INDEX, x -> x.item(0, 0, 3, 9));
        midwinter("item", INDEX, x -> x.item(0, 0, -1, 9));
        midwinter("item", INDEX, x -> x.item(2, 3, 0, 9));
    }

    private static void manySheetCalls() {
        midwinter("weather", BAD, x -> x.weather(0, 0, 0, 9, 0));
        midwinter("weather", BAD, x -> x.weather(0, 0, 0, 2, 2));
        midwinter("weather", NULL, x -> x.weather(3, 0, 0, 1, 0));
        midwinter("weather", CAST, x -> x.weather(0, 2, 0, 1, 0));
        midwinter("weather", INDEX, x -> x.weather(0, 0, 1, 3, 0));
        summer("weather", NOT, x -> x.weather(0, 0, 0, 1, -1));
        midwinter("film", BAD, x -> x.film(3, 1, 0, 0, 0));
        midwinter("film", BAD, x -> x.film(0, 0, 0, 0, 0));
        midwinter("film", BAD, x -> x.film(0, 25, 0, 0, 0));
        midwinter("film", NULL, x -> x.film(0, 1, 3, 0, 0));
        midwinter("film", CAST, x -> x.film(0, 1, 0, 3, 0));
        midwinter("film", INDEX, x -> x.film(0, 3, 0, 0, 1));
        midwinter("film", INDEX, x -> x.film(0, 4, 0, 0, 0));
        midwinter("copy", BAD, x -> x.copy(0, 0, 4, 0, 1));
        midwinter("copy", BAD, x -> x.copy(-1, 0, 0, 0, 1));
        midwinter("copy", NULL, x -> x.copy(0, 0, 3, 0, 1));
        midwinter("copy", NULL, x -> x.copy(3, 0, 0, 0, 1));
        midwinter("copy", CAST, x -> x.copy(0, 0, 2, 0, 0));
        midwinter("copy", INDEX, x -> x.copy(0, 0, 1, 0, 3));
        midwinter("copy", INDEX, x -> x.copy(0, 2, 1, 0, 2));
        midwinter("copy", INDEX, x -> x.copy(0, 0, 0, 2, 2));
        midwinter("copy", INDEX, x -> x.copy(0, 0, 1, 0, -1));
    }

    private static void firstOfSeveral() {
        summer("builder: BAD, FULL", BAD, x -> x.builder(0, 10, 0));
        midwinter("wall: BAD, NOT", BAD, x -> x.wall(0, 0));
        midwinter("wall: BAD, NOT", BAD, x -> x.wall(1, 0));
        midwinter("wall: BAD, NOT", BAD, x -> x.wall(2, 11));
        midwinter("wall: BAD, NOT", BAD, x -> x.wall(3, 11));
        summer("hindrance: BAD, FULL", BAD, x -> x.hindrance(1, 4));
        summer("type: BAD, FULL", BAD, x -> x.type(127));
        summer("day: BAD, FULL", BAD, x -> x.day(3));
        summer("use: BAD, FULL", BAD, x -> x.use(6));
        summer("use: NOT, FULL", NOT, x -> x.use(0));
        summer("drift: BAD, FULL", BAD, x -> x.drift(41));
        summer("sure: BAD, not NONE", BAD, x -> x.sure(MILLION + 1));
        summer("pace: BAD, not NONE", BAD, x -> x.pace(0, MILLION + 1));
        summer("pace: BAD, not NONE", BAD, x -> x.pace(4, MILLION));
        midwinter("best: BAD, NOT", BAD, x -> x.best(0, 2));
        summer("best: BAD, not NONE", BAD, x -> x.best(2, -1));
        summer("best: BAD, NOT", BAD, x -> x.best(5, 2));
        atFirst("soonest: BAD, not NONE", BAD, x -> x.soonest(3));
        midwinter("sheet: BAD, SIZE", BAD, x -> x.sheet(4, 0, -1));
        midwinter("item: BAD, INDEX", BAD, x -> x.item(0, 4, 9, 0));
        midwinter("item: BAD, NULL", BAD, x -> x.item(3, 4, 0, 0));
        midwinter("film: BAD, NULL", BAD, x -> x.film(0, 25, 3, 0, 0));
        midwinter("film: BAD, CAST", BAD, x -> x.film(3, 1, 0, 1, 0));
        midwinter("film: BAD, INDEX", BAD, x -> x.film(0, 0, 0, 0, 9));
        midwinter("weather: BAD, NULL", BAD, x -> x.weather(3, 0, 0, 9, 0));
        midwinter("weather: BAD, CAST", BAD, x -> x.weather(0, 1, 0, 1, 1));
        midwinter("weather: BAD, INDEX", BAD, x -> x.weather(0, 0, 9, 0, -1));
        summer("weather: BAD, NOT", BAD, x -> x.weather(0, 0, 0, 1, 1));
        summer("weather: NULL, NOT", NULL, x -> x.weather(1, 0, 0, 1, 0));
        summer("weather: CAST, NOT", CAST, x -> x.weather(0, 1, 0, 1, 0));
        summer("weather: INDEX, NOT", INDEX, x -> x.weather(0, 0, 9, 1, 0));
        midwinter("copy: BAD, NULL", BAD, x -> x.copy(3, 0, 4, 0, 0));
        midwinter("copy: BAD, INDEX", BAD, x -> x.copy(-1, 0, 0, 0, -1));
    }

    private static void firstOfTheMachines() {
        midwinter("item: NULL, INDEX", NULL, x -> x.item(3, 1, -1, 0));
        midwinter("item: CAST, INDEX", CAST, x -> x.item(0, 1, -1, 0));
        midwinter("film: NULL, INDEX", NULL, x -> x.film(0, 24, 3, 1, 9));
        midwinter("film: CAST, INDEX", CAST, x -> x.film(0, 24, 0, 1, 9));
        midwinter("weather: NULL, INDEX", NULL, x -> x.weather(3, 1, -1, 8, 0));
        midwinter("weather: CAST, INDEX", CAST, x -> x.weather(0, 1, -1, 8, 0));
        midwinter("copy: NULL, INDEX", NULL, x -> x.copy(0, 9, 3, 0, -1));
        midwinter("copy: NULL, INDEX", NULL, x -> x.copy(3, 9, 2, 0, -1));
        midwinter("copy: CAST, INDEX", CAST, x -> x.copy(0, 9, 2, 0, 1));
        midwinter("copy: CAST, INDEX", CAST, x -> x.copy(2, 0, 0, 0, -1));
    }
}
