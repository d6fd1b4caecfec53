/** The wall, its builders, its hindrances, its oaths (promises 1 to 6 and 9): each sentence with an edge by itself. */
public final class WallEdgesTest extends Edges {
    private static final Due due = new Due("WallEdgesTest");

    public static void main(String[] args) {
        nobodyAtFirst();
        numbersAtFirst();
        stones();
        days();
        frostAndThaw();
        fewerStonesThanLaid();
        fewerDaysThanDay();
        frostAndThawAboveTen();
        whatOfTheWall();
        kindPaceHorse();
        buildersAsTheyCome();
        fullOfBuilders();
        lays();
        paidByTens();
        whatOfABuilder();
        costAndOath();
        hindrancesAsTheyCome();
        fullOfHindrances();
        oaths();
        whatToCount();
        setsAreBits();
        lastCall();
        due.end();
    }

    private static void nobodyAtFirst() {
        due.sentence("A wall, nobody.");
        SummerWall x = new SummerWall();
        due.is("builders", x.count(0), 0);
        due.is("hindrances", x.count(1), 0);
        due.is("of the first builder", x.of(0, 0), BAD);
        due.is("pace of the first builder", x.pace(0, 0), BAD);
        due.is("the first hindrance", x.use(0), BAD);
        due.is("the first hindrance", x.best(0, 0), BAD);
        due.is("a day lays nothing", x.day(FAIR), 0);
        due.is("an image", new SummerWall().restore(), NONE);
        due.is("what may be undone", new SummerWall().undo(), NONE);
        due.is("the tape", new SummerWall().type('7'), 1);
        SummerWall other = new SummerWall();
        x.builder(0, 9, 0);
        x.sheet(0, 0, 3);
        x.type('7');
        x.image();
        counts(due, "another object", other, 0, 0, 60, 20, 2, 1, 0, 0, 0, 0, 0, 15, 0);
        due.is("another object's sheet", other.drop(0), NULL);
        due.is("another object's tape", other.type('7'), 1);
        due.is("another object's image", other.restore(), NONE);
    }

    private static void numbersAtFirst() {
        SummerWall x = new SummerWall();
        due.sentence("STONES (1 .. 200; 60 at first)");
        due.is("stones", x.count(2), 60);
        due.sentence("LAID (0 .. STONES; 0 at first)");
        due.is("laid", x.count(7), 0);
        due.sentence("DAYS (1 .. 40; 20 at first)");
        due.is("days", x.count(3), 20);
        due.sentence("it is DAY 0 at first");
        due.is("day", x.count(6), 0);
        due.sentence("2 and 1 at first");
        due.is("frost", x.count(4), 2);
        due.is("thaw", x.count(5), 1);
        due.sentence("OATHS 0 .. 3 are SWORN or not (all are at first)");
        due.is("sworn", x.count(11), 15);
        due.is("broken", x.count(10), 0);
        due.sentence("THE DRAW is a number of 31 bits (1 at first)");
        due.is("the draw", x.seed(1), 1);
    }

    private static void stones() {
        due.sentence("STONES (1 .. 200");
        span(due, "stones", 1, 200, v -> new SummerWall().wall(0, v));
        SummerWall x = new SummerWall();
        due.is("the least: what it was", x.wall(0, 1), 60);
        due.is("the least: what it is", x.count(2), 1);
        due.is("the most: what it was", x.wall(0, 200), 1);
        due.is("the most: what it is", x.count(2), 200);
        x.wall(0, 201);
        x.wall(0, 0);
        due.is("what is refused", x.count(2), 200);
    }

    private static void days() {
        due.sentence("in DAYS (1 .. 40");
        span(due, "days", 1, 40, v -> new SummerWall().wall(1, v));
        SummerWall x = new SummerWall();
        due.is("the least: what it was", x.wall(1, 1), 20);
        due.is("the least: what it is", x.count(3), 1);
        due.is("the most: what it was", x.wall(1, 40), 1);
        due.is("the most: what it is", x.count(3), 40);
        x.wall(1, 41);
        x.wall(1, 0);
        due.is("what is refused", x.count(3), 40);
    }

    private static void frostAndThaw() {
        due.sentence("FROST is 0 .. 10, THAW 0 .. 10");
        span(due, "frost", 0, 10, v -> new SummerWall().wall(2, v));
        span(due, "thaw", 0, 10, v -> new SummerWall().wall(3, v));
        SummerWall x = new SummerWall();
        due.is("thaw was", x.wall(3, 0), 1);
        due.is("frost was", x.wall(2, 10), 2);
        due.is("frost", x.count(4), 10);
        due.is("frost was", x.wall(2, 0), 10);
        due.is("thaw was", x.wall(3, 10), 0);
        due.is("thaw", x.count(5), 10);
        due.is("thaw was", x.wall(3, 0), 10);
        due.is("neither", x.count(4) + x.count(5), 0);
    }

    private static void fewerStonesThanLaid() {
        due.sentence("NOT: fewer STONES than LAID");
        SummerWall x = of("60,20;p90");
        x.day(FAIR);
        due.is("one fewer", x.wall(0, 8), NOT);
        due.is("refused", x.count(2), 60);
        due.is("as many", x.wall(0, 9), 60);
        due.is("one more", x.wall(0, 10), 9);
        due.is("one fewer still", x.wall(0, 8), NOT);
        due.is("none: BAD is named first", x.wall(0, 0), BAD);
        SummerWall full = allLaid(200);
        due.is("all 200 are laid", full.wall(0, 199), NOT);
        due.is("all 200 are laid", full.wall(0, 200), 200);
    }

    private static void fewerDaysThanDay() {
        due.sentence("fewer DAYS than DAY");
        SummerWall x = new SummerWall();
        due.is("on day 0 one is enough", x.wall(1, 1), 20);
        x.wall(1, 20);
        days(x, 3, FAIR);
        due.is("one fewer", x.wall(1, 2), NOT);
        due.is("refused", x.count(3), 20);
        due.is("as many", x.wall(1, 3), 20);
        due.is("it is summer then", x.day(FAIR), FULL);
        due.is("one more", x.wall(1, 4), 3);
        due.is("it is winter then", x.day(FAIR), 0);
        due.is("none: BAD is named first", x.wall(1, 0), BAD);
        SummerWall last = new SummerWall();
        last.wall(1, 40);
        days(last, 40, FAIR);
        due.is("on day 40", last.wall(1, 39), NOT);
        due.is("on day 40", last.wall(1, 40), 40);
    }

    private static void frostAndThawAboveTen() {
        due.sentence("FROST and THAW above 10");
        for (int frost = 0; frost <= 10; frost++) {
            for (int thaw = 0; thaw <= 10; thaw++) {
                SummerWall x = new SummerWall();
                x.wall(3, 0);
                x.wall(2, frost);
                due.is("thaw beside " + frost, x.wall(3, thaw), frost + thaw > 10 ? NOT : 0);
                due.is("thaw", x.count(5), frost + thaw > 10 ? 0 : thaw);
                SummerWall y = new SummerWall();
                y.wall(2, 0);
                y.wall(3, thaw);
                due.is("frost beside " + thaw, y.wall(2, frost), frost + thaw > 10 ? NOT : 0);
                due.is("frost", y.count(4), frost + thaw > 10 ? 0 : frost);
            }
        }
        due.is("frost 11: BAD is named first", new SummerWall().wall(2, 11), BAD);
        due.is("thaw 11: BAD is named first", new SummerWall().wall(3, 11), BAD);
    }

    private static void whatOfTheWall() {
        due.sentence("0 STONES, 1 DAYS, 2 FROST, 3 THAW becomes v");
        span(due, "what", 0, 3, what -> new SummerWall().wall(what, 5));
        int[] was = {60, 20, 2, 1};
        for (int what = 0; what < 4; what++) {
            SummerWall x = new SummerWall();
            due.is("what it was", x.wall(what, 5), was[what]);
            for (int other = 0; other < 4; other++) {
                due.is("what it is, the others being left", x.count(2 + other), other == what ? 5 : was[other]);
            }
        }
    }

    private static void kindPaceHorse() {
        due.sentence("of a KIND, of PACE (1 .. 9), with a HORSE (0 .. 9)");
        span(due, "kind", 0, 4, v -> new SummerWall().builder(v, 5, 5));
        span(due, "pace", 1, 9, v -> new SummerWall().builder(0, v, 5));
        span(due, "horse", 0, 9, v -> new SummerWall().builder(0, 5, v));
        int[][] corners = {{0, 1, 0}, {4, 9, 9}, {0, 9, 0}, {4, 1, 9}};
        for (int[] c : corners) {
            SummerWall x = new SummerWall();
            x.builder(c[0], c[1], c[2]);
            for (int what = 0; what < 3; what++) {
                due.is("of " + what, x.of(0, what), c[what]);
            }
        }
    }

    private static void buildersAsTheyCome() {
        due.sentence("BUILDERS 0 .. 3, as they come");
        SummerWall x = new SummerWall();
        for (int k = 0; k < 4; k++) {
            due.is("a builder who is to come", x.of(k, 1), BAD);
            x.builder(7, 7, 7);
            due.is("the number, whoever was refused", x.builder(4 - k, k + 1, k), k);
            due.is("builders", x.count(0), k + 1);
        }
        for (int k = 0; k < 4; k++) {
            due.is("kind", x.of(k, 0), 4 - k);
            due.is("pace", x.of(k, 1), k + 1);
            due.is("horse", x.of(k, 2), k);
        }
    }

    private static void fullOfBuilders() {
        due.sentence("A BUILDER: the number. BAD; FULL: 4.");
        for (int there = 1; there <= 4; there++) {
            SummerWall x = of("60,20;p10,p10,p10,p10".substring(0, 6 + 4 * there - 1));
            due.is("beside " + there, x.builder(1, 1, 1), there < 4 ? there : FULL);
            due.is("builders", x.count(0), Math.min(4, there + 1));
        }
        SummerWall x = of("60,20;p10,p10,p10,p10");
        due.is("BAD is named first", x.builder(5, 1, 1), BAD);
        due.is("BAD is named first", x.builder(0, 10, 1), BAD);
        due.is("BAD is named first", x.builder(0, 1, 10), BAD);
    }

    private static void lays() {
        due.sentence("LAYS all; half; 1 less (0 at least) ... in THAW 2 less still (0 at least)");
        int[][] want = { // kind, pace, horse: hauls; lays on a fair day, in frost, in thaw
            {0, 1, 9, 1, 1, 0, 0}, {0, 2, 9, 2, 2, 1, 1}, {0, 3, 0, 3, 3, 1, 2}, {0, 9, 9, 9, 9, 4, 8},
            {1, 1, 0, 1, 1, 0, 0}, {1, 1, 1, 2, 2, 1, 1}, {1, 9, 9, 18, 18, 9, 17},
            {2, 1, 9, 1, 1, 1, 0}, {2, 2, 0, 2, 2, 2, 1}, {2, 9, 9, 9, 9, 9, 8},
            {3, 1, 0, 2, 2, 1, 0}, {3, 2, 0, 4, 4, 2, 1}, {3, 1, 1, 4, 4, 2, 1}, {3, 9, 9, 36, 36, 18, 33},
            {4, 1, 9, 1, 1, 0, 0}, {4, 2, 0, 2, 2, 1, 1}, {4, 9, 9, 9, 9, 4, 8},
        };
        for (int[] w : want) {
            SummerWall x = new SummerWall();
            x.builder(w[0], w[1], w[2]);
            for (int what = 0; what <= 6; what++) {
                due.is("kind " + w[0] + ", " + w[1] + ", " + w[2] + ": of " + what, x.of(0, what), w[what]);
            }
        }
    }

    private static void paidByTens() {
        due.sentence("HAULS 1 more for each 10 LAID");
        int[] laid = {1, 9, 10, 11, 19, 20, 99, 100, 109, 110, 199, 200};
        for (int l : laid) {
            SummerWall x = allLaid(l);
            due.is("laid", x.count(7), l);
            due.is("hauls by " + l, x.of(1, 3), 1 + l / 10);
            due.is("on a fair day by " + l, x.of(1, 4), 1 + l / 10);
            due.is("in frost by " + l, x.of(1, 5), (1 + l / 10) / 2);
            due.is("in thaw by " + l, x.of(1, 6), l / 10);
            due.is("a giant hauls as ever", x.of(0, 3), 36);
        }
    }

    private static void whatOfABuilder() {
        due.sentence("Of a BUILDER: 0 KIND, 1 PACE, 2 HORSE, 3 what he HAULS now, 4, 5, 6");
        SummerWall x = of("60,20;g12,b34");
        span(due, "what", 0, 6, v -> x.of(1, v));
        span(due, "builder", 0, 1, v -> x.of(v, 6));
        span(due, "builder of four", 0, 3, v -> of("60,20;p10,p10,p10,p10").of(v, 0));
    }

    private static void costAndOath() {
        due.sentence("cost 1 .. 9 STONES, break an OATH or none (NONE)");
        span(due, "cost", 1, 9, v -> new SummerWall().hindrance(v, NONE));
        span(due, "cost", 1, 9, v -> new SummerWall().hindrance(v, 3));
        span(due, "oath", 0, 3, v -> v == NONE ? BAD : new SummerWall().hindrance(5, v));
        int[] noOaths = {-1, -2, -3, -5, -11, 4, 5};
        for (int v : noOaths) {
            due.is("oath " + v, new SummerWall().hindrance(5, v), BAD);
        }
        int[] oaths = {NONE, 0, 1, 2, 3};
        for (int oath : oaths) {
            SummerWall x = new SummerWall();
            due.is("the number", x.hindrance(9, oath), 0);
            due.is("what it costs", x.use(0), 9);
            due.is("what it breaks", x.count(10), oath == NONE ? 0 : 1 << oath);
        }
    }

    private static void hindrancesAsTheyCome() {
        due.sentence("HINDRANCES 0 .. 5, as they come");
        SummerWall x = new SummerWall();
        for (int k = 0; k < 6; k++) {
            due.is("one that is to come", x.use(k), BAD);
            x.hindrance(0, 0);
            due.is("the number, whatever was refused", x.hindrance(k + 1, k < 4 ? k : NONE), k);
            due.is("hindrances", x.count(1), k + 1);
        }
        int cost = 0;
        for (int k = 0; k < 6; k++) {
            cost += k + 1;
            due.is("what they cost", x.use(k), cost);
            due.is("what they break", x.count(10), k < 4 ? (2 << k) - 1 : 15);
        }
    }

    private static void fullOfHindrances() {
        due.sentence("A HINDRANCE (what it costs; an OATH, NONE): the number. BAD; FULL: 6.");
        for (int there = 0; there <= 6; there++) {
            SummerWall x = of("60,20;p10" + ";1,1,1,1,1,1".substring(0, 2 * there));
            due.is("beside " + there, x.hindrance(2, 2), there < 6 ? there : FULL);
            due.is("hindrances", x.count(1), Math.min(6, there + 1));
        }
        SummerWall x = of("60,20;p10;1,1,1,1,1,1");
        due.is("BAD is named first", x.hindrance(0, 2), BAD);
        due.is("BAD is named first", x.hindrance(1, 4), BAD);
    }

    private static void oaths() {
        due.sentence("An OATH is SWORN (1), or not (0): how it was. BAD.");
        span(due, "oath", 0, 3, v -> new SummerWall().oath(v, 0));
        span(due, "is", 0, 1, v -> new SummerWall().oath(0, v));
        for (int k = 0; k < 4; k++) {
            SummerWall x = new SummerWall();
            due.is("sworn, stays so", x.oath(k, 1), 1);
            due.is("all", x.count(11), 15);
            due.is("no longer", x.oath(k, 0), 1);
            due.is("all but one", x.count(11), 15 - (1 << k));
            due.is("not sworn, stays so", x.oath(k, 0), 0);
            due.is("sworn again", x.oath(k, 1), 0);
            due.is("all", x.count(11), 15);
        }
        SummerWall none = new SummerWall();
        for (int k = 0; k < 4; k++) {
            none.oath(k, 0);
        }
        due.is("none", none.count(11), 0);
    }

    private static void whatToCount() {
        due.sentence("0 BUILDERS, 1 HINDRANCES ... 12 what may be UNDONE. BAD.");
        span(due, "what", 0, 12, v -> new SummerWall().count(v));
        SummerWall x = of("77,30;p30,h21,w20;3,2a,5b,1c", 4, 3);
        x.oath(1, 0);
        x.use(0);
        x.day(FAIR);
        x.use(1);
        x.use(2);
        counts(due, "each by its own number", x, 3, 4, 77, 30, 4, 3, 1, 5, 7, 7, 1, 13, 4);
    }

    private static void setsAreBits() {
        due.sentence("Sets are bits.");
        SummerWall x = of("60,20;p10;1,1a,1b,1c,1d,1");
        x.use(5);
        due.is("the last hindrance", x.count(8), 32);
        x.use(0);
        due.is("the first one besides", x.count(8), 33);
        due.is("none broken", x.count(10), 0);
        x.use(4);
        due.is("the last oath", x.count(10), 8);
        x.use(1);
        due.is("the first one besides", x.count(10), 9);
        x.use(2);
        x.use(3);
        due.is("all hindrances", x.count(8), 63);
        due.is("all oaths", x.count(10), 15);
    }

    private static void lastCall() {
        due.sentence("An object is used for at most 512 calls after it has been made");
        SummerWall x = new SummerWall();
        for (int k = 0; k < 504; k += 8) {
            for (char c : "7,5;p1".toCharArray()) {
                x.type(c);
            }
            due.is("the tape", x.type('0'), 7);
            due.is("a bargain", x.bargain(), 1);
        }
        for (int k = 0; k < 5; k++) {
            due.is("a day", x.day(FAIR), 1);
        }
        due.is("the 510th", x.day(FAIR), FULL);
        due.is("the 511th", x.undo(), 4);
        due.is("the 512th", x.count(7), 4);
    }
}
