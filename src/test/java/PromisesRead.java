/** The document's promises 1 to 30, read by DocumentTest. */
final class PromisesRead extends Edges {
    private final Reading doc;
    private final Due due;

    PromisesRead(Reading doc, Due due) {
        this.doc = doc;
        this.due = due;
    }

    void read() {
        newObject();
        builders();
        walls();
        hindrancesAndOaths();
        tape();
        counted();
        days();
        drifts();
        undoAndSeed();
        odds();
        sureAndPace();
        planAndBest();
        soonestAndMean();
        images();
        weather();
        film();
        sheets();
        items();
        copies();
    }

    private void promise(int number, String name, String signature) {
        doc.passes("## Promise " + number + ": " + name + " `" + signature + "`:");
    }

    private void newObject() {
        promise(1, "A new object", "SummerWall()");
        doc.asks("A wall, nobody.");
        SummerWall x = new SummerWall();
        counts(due, "new", x, 0, 0, 60, 20, 2, 1, 0, 0, 0, 0, 0, 15, 0);
        due.is("nobody", x.of(0, 0), BAD);
        due.is("an empty tape", x.bargain(), -20);
        due.is("no image", x.restore(), NONE);
        due.is("no sheet", x.drop(0), NULL);
    }

    private void builders() {
        promise(2, "builder", "int builder(int kind, int pace, int horse)");
        doc.asks("A BUILDER: the number.");
        SummerWall x = new SummerWall();
        due.is("the first", x.builder(3, 2, 5), 0);
        due.is("the second", x.builder(0, 9, 9), 1);
        due.is("builders", x.count(0), 2);
        doc.asks("BAD;");
        int[][] bad = {{-1, 1, 0}, {5, 1, 0}, {0, 0, 0}, {0, 10, 0}, {0, 1, -1}, {0, 1, 10}};
        for (int[] b : bad) {
            due.is("not as told", x.builder(b[0], b[1], b[2]), BAD);
        }
        doc.asks("FULL: 4.");
        due.is("the third", x.builder(4, 1, 0), 2);
        due.is("the fourth", x.builder(2, 1, 0), 3);
        due.is("the fifth", x.builder(1, 1, 0), FULL);
        due.is("BAD is named first", x.builder(5, 1, 0), BAD);
        due.is("builders", x.count(0), 4);

        promise(3, "of", "int of(int builder, int what)");
        doc.asks("Of a BUILDER: 0 KIND, 1 PACE, 2 HORSE, 3 what he HAULS now, 4, 5, 6 what he LAYS now on a DAY of WEATHER 0, 1, 2.");
        int[][] want = {{3, 2, 5, 14, 14, 7, 11}, {0, 9, 9, 9, 9, 4, 8}, {4, 1, 0, 1, 1, 0, 0}, {2, 1, 0, 1, 1, 1, 0}};
        for (int b = 0; b < 4; b++) {
            for (int what = 0; what <= 6; what++) {
                due.is("of " + b + ": " + what, x.of(b, what), want[b][what]);
            }
        }
        x.day(FAIR);
        due.is("laid", x.count(7), 25);
        due.is("now", x.of(2, 3), 3);
        due.is("now", x.of(2, 6), 2);
        doc.asks("BAD.");
        due.is("no such builder", x.of(4, 0), BAD);
        due.is("no such builder", x.of(-1, 0), BAD);
        due.is("nothing of him", x.of(0, 7), BAD);
        due.is("nothing of him", x.of(0, -1), BAD);
    }

    private void walls() {
        promise(4, "wall", "int wall(int what, int v)");
        doc.asks("0 STONES, 1 DAYS, 2 FROST, 3 THAW becomes v: what it was.");
        SummerWall x = of("60,20;p90");
        due.is("stones", x.wall(0, 50), 60);
        due.is("days", x.wall(1, 10), 20);
        due.is("frost", x.wall(2, 6), 2);
        due.is("thaw", x.wall(3, 4), 1);
        counts(due, "all", x, 1, 0, 50, 10, 6, 4);
        doc.asks("BAD;");
        int[][] bad = {{-1, 1}, {4, 1}, {0, 0}, {0, 201}, {1, 0}, {1, 41}, {2, -1}, {2, 11}, {3, -1}, {3, 11}};
        for (int[] b : bad) {
            due.is("not as told", x.wall(b[0], b[1]), BAD);
        }
        doc.asks("NOT: fewer STONES than LAID, fewer DAYS than DAY, FROST and THAW above 10.");
        days(x, 2, FAIR);
        due.is("17 of 18", x.wall(0, 17), NOT);
        due.is("1 of 2", x.wall(1, 1), NOT);
        due.is("7 and 4", x.wall(2, 7), NOT);
        due.is("6 and 5", x.wall(3, 5), NOT);
        due.is("18 of 18", x.wall(0, 18), 50);
        due.is("2 of 2", x.wall(1, 2), 10);
    }

    private void hindrancesAndOaths() {
        promise(5, "hindrance", "int hindrance(int cost, int oath)");
        doc.asks("A HINDRANCE (what it costs; an OATH, NONE): the number.");
        SummerWall x = new SummerWall();
        due.is("one that breaks an oath", x.hindrance(4, 2), 0);
        due.is("one that breaks none", x.hindrance(5, SummerWall.NONE), 1);
        due.is("costs", x.use(0), 4);
        due.is("breaks", x.count(10), 4);
        due.is("costs", x.use(1), 9);
        due.is("breaks none", x.count(10), 4);
        doc.asks("BAD;");
        int[][] bad = {{0, 0}, {10, 0}, {1, 4}, {1, -1}, {1, -2}, {1, -3}, {1, -5}};
        for (int[] b : bad) {
            due.is("not as told", x.hindrance(b[0], b[1]), BAD);
        }
        doc.asks("FULL: 6.");
        for (int k = 2; k < 6; k++) {
            due.is("one more", x.hindrance(1, 0), k);
        }
        due.is("the seventh", x.hindrance(1, 0), FULL);
        due.is("BAD is named first", x.hindrance(0, 0), BAD);

        promise(6, "oath", "int oath(int k, int is)");
        doc.asks("An OATH is SWORN (1), or not (0): how it was.");
        due.is("it was", x.oath(1, 0), 1);
        due.is("sworn are the others", x.count(11), 13);
        due.is("it was not", x.oath(1, 1), 0);
        due.is("sworn are all", x.count(11), 15);
        doc.asks("BAD.");
        int[][] none = {{-1, 0}, {4, 0}, {0, -1}, {0, 2}};
        for (int[] b : none) {
            due.is("not as told", x.oath(b[0], b[1]), BAD);
        }
    }

    private void tape() {
        promise(7, "type", "int type(int letter)");
        doc.asks("One letter more behind THE TAPE: how many it has.");
        SummerWall x = new SummerWall();
        String text = "9,8;h76;5d";
        for (int k = 0; k < text.length(); k++) {
            due.is("letters", x.type(text.charAt(k)), k + 1);
        }
        doc.asks("BAD: not 32 .. 126;");
        due.is("32", new SummerWall().type(32), 1);
        due.is("126", new SummerWall().type(126), 1);
        due.is("31", x.type(31), BAD);
        due.is("127", x.type(127), BAD);
        due.is("no letter", x.type(HIGH), BAD);
        doc.asks("FULL: 60.");
        for (int k = text.length(); k < 60; k++) {
            due.is("blanks", x.type(' '), k + 1);
        }
        due.is("the 61st", x.type(' '), FULL);
        due.is("BAD is named first", x.type(127), BAD);

        promise(8, "bargain", "int bargain()");
        doc.asks("THE TAPE, which is empty then, is a BARGAIN: how many BUILDERS.");
        due.is("one, the letters being in their order", x.bargain(), 1);
        counts(due, "a bargain", x, 1, 1, 9, 8);
        due.is("kind", x.of(0, 0), 1);
        due.is("pace", x.of(0, 1), 7);
        due.is("horse", x.of(0, 2), 6);
        due.is("empty", x.bargain(), -20);
        due.is("three", tell(x, "9,8;h76,p10,p10"), 3);
        doc.asks("A FAULT (all else stays).");
        x.day(FAIR);
        due.is("a fault", tell(x, "7,5;p1x"), -26);
        counts(due, "all else", x, 3, 0, 9, 8, 2, 1, 1, 9, 0, 0, 0, 15, 1);
        due.is("the tape", x.type('7'), 1);
    }

    private void counted() {
        promise(9, "count", "int count(int what)");
        doc.asks("0 BUILDERS, 1 HINDRANCES, 2 STONES, 3 DAYS, 4 FROST, 5 THAW, 6 DAY, 7 LAID,");
        SummerWall x = of("55,30;p30,g11;3,2a,5b", 4, 3);
        x.oath(1, 0);
        x.use(0);
        x.day(FAIR);
        x.use(1);
        x.use(2);
        counts(due, "these", x, 2, 3, 55, 30, 4, 3, 1, 4);
        doc.asks("8 USED ones (a set), 9 what they cost today, 10 BROKEN OATHS (a set), 11 SWORN ones (a set), 12 what may be UNDONE.");
        due.is("used", x.count(8), 7);
        due.is("cost", x.count(9), 7);
        due.is("broken", x.count(10), 1);
        due.is("sworn", x.count(11), 13);
        due.is("undone", x.count(12), 4);
        doc.asks("BAD.");
        due.is("13", x.count(13), BAD);
        due.is("-1", x.count(-1), BAD);
    }

    private void days() {
        promise(10, "day", "int day(int weather)");
        doc.asks("A DAY of a WEATHER: STONES that were LAID.");
        SummerWall x = of("30,4;p90;2,3,1");
        due.is("fair", x.day(FAIR), 9);
        due.is("frost", x.day(FROST), 4);
        due.is("thaw", x.day(THAW), 8);
        due.is("laid", x.count(7), 21);
        doc.asks("BAD;");
        due.is("3", x.day(3), BAD);
        due.is("-1", x.day(-1), BAD);
        doc.asks("FULL: it is SUMMER.");
        due.is("the last", x.day(FAIR), 9);
        due.is("summer", x.day(FAIR), FULL);

        promise(11, "use", "int use(int hindrance)");
        doc.asks("A HINDRANCE is USED: what all cost today.");
        x.wall(1, 6);
        due.is("one", x.use(1), 3);
        due.is("two", x.use(0), 5);
        x.day(FAIR);
        due.is("today", x.use(2), 1);
        doc.asks("BAD;");
        due.is("a fourth", x.use(3), BAD);
        due.is("-1", x.use(-1), BAD);
        doc.asks("NOT: it was;");
        due.is("today", x.use(2), NOT);
        due.is("yesterday", x.use(0), NOT);
        due.is("BAD is named first: number 32, whose bit would be that of number 0", x.use(32), BAD);
        doc.asks("FULL: it is SUMMER.");
        x.undo();
        x.day(FAIR);
        due.is("summer", x.use(2), FULL);
        due.is("not used", x.count(8), 3);
    }

    private void drifts() {
        promise(12, "drift", "int drift(int n)");
        doc.asks("A DRIFT of n DAYS (1 .. 40; to SUMMER at most): STONES that were LAID.");
        // The lots from 1 on are 8 8 3 5 1 7 0 9 2 6: fair but for the fifth and the seventh, of frost, and the ninth, of thaw.
        SummerWall x = of("200,12;p90");
        due.is("five days", x.drift(5), 9 * 4 + 4);
        due.is("five more", x.drift(5), 9 + 4 + 9 + 8 + 9);
        due.is("day", x.count(6), 10);
        due.that("to summer", x.drift(40) > 0);
        due.is("to summer", x.count(6), 12);
        doc.asks("BAD;");
        due.is("0", x.drift(0), BAD);
        due.is("41", x.drift(41), BAD);
        doc.asks("FULL: it is SUMMER.");
        due.is("summer", x.drift(1), FULL);
    }

    private void undoAndSeed() {
        promise(13, "undo", "int undo()");
        doc.asks("UNDONE: how many more may be.");
        SummerWall x = of("60,20;p50;3");
        x.day(FAIR);
        x.use(0);
        x.drift(2);
        due.is("three more", x.undo(), 3);
        due.is("two more", x.undo(), 2);
        due.is("one more", x.undo(), 1);
        counts(due, "a day is left", x, 1, 1, 60, 20, 2, 1, 1, 5, 0, 0, 0, 15, 1);
        due.is("no more", x.undo(), 0);
        doc.asks("NONE: none is known.");
        due.is("none", x.undo(), NONE);

        promise(14, "seed", "int seed(int v)");
        doc.asks("THE DRAW becomes v: what it was.");
        due.is("1", x.seed(65536), 1);
        due.is("v", x.seed(0), 65536);
        due.is("0", x.seed(9), 0);
        doc.asks("BAD: below 0.");
        due.is("-1", x.seed(-1), BAD);
        due.is("it stays", x.seed(9), 9);
    }

    private void odds() {
        promise(15, "odds", "int odds()");
        doc.asks("ODDS now.");
        SummerWall x = of("12,2;p90;9");
        // Two of 9, 4, 8 make 12 but for two of frost.
        due.is("now", x.odds(), 960000);
        x.use(0);
        due.is("9 less today", x.odds(), 0);
        x.day(THAW);
        due.is("12 in a day", x.odds(), 0);
        x.undo();
        x.undo();
        x.day(FROST);
        due.is("8 in a day", x.odds(), 800000);

        promise(16, "oddsAt", "int oddsAt(int day, int laid)");
        doc.asks("ODDS from a DAY (0 .. DAYS) and so many LAID (0 .. STONES), nothing being USED.");
        x.use(0);
        due.is("used now", x.odds(), 0);
        due.is("not there", x.oddsAt(1, 4), 800000);
        due.is("ahead of today", x.oddsAt(0, 0), 960000);
        due.is("summer", x.oddsAt(2, 11), 0);
        due.is("summer", x.oddsAt(2, 12), MILLION);
        doc.asks("BAD.");
        int[][] bad = {{-1, 0}, {3, 0}, {0, -1}, {0, 13}};
        for (int[] b : bad) {
            due.is("not as told", x.oddsAt(b[0], b[1]), BAD);
        }
    }

    private void sureAndPace() {
        promise(17, "sure", "int sure(int s)");
        doc.asks("SURE; NONE.");
        SummerWall x = of("3,4;p10;1");
        // One stone on a fair day: 3 of 4 days at least, 2 of 3, 1 of 2, then none.
        int[][] want = {{651700, 0}, {651701, 1}, {784000, 1}, {784001, 2}, {910000, 2}, {910001, 3}, {MILLION, 3}};
        for (int[] w : want) {
            due.is("of " + w[0], x.sure(w[0]), w[1]);
        }
        x.use(0);
        due.is("a day is lost: now", x.sure(343000), 0);
        due.is("a day is lost: none till two are laid", x.sure(490001), 3);
        x.day(FAIR);
        x.day(FROST);
        due.is("three in two days", x.sure(1), NONE);
        doc.asks("BAD.");
        due.is("-1", x.sure(-1), BAD);
        due.is("above a million", x.sure(MILLION + 1), BAD);

        promise(18, "pace", "int pace(int builder, int s)");
        doc.asks("PACE; NONE.");
        SummerWall y = of("20,1;p90,h12");
        due.is("of 0", y.pace(0, 0), 0);
        due.is("12 on a fair day, 20 are wanted", y.pace(0, 1), 8);
        due.is("of the other", y.pace(1, 1), 8);
        due.is("in thaw, too", y.pace(0, 800000), 10);
        due.is("in frost, too: 1 of the other, 19 of his", y.pace(0, MILLION), NONE);
        due.is("of a blind one in frost", of("11,1;b90", 10, 0).pace(0, MILLION), 2);
        due.is("of one who is paid", fairOnly("21,2;w90").pace(0, MILLION), 1);
        doc.asks("BAD.");
        due.is("no such builder", y.pace(2, 0), BAD);
        due.is("no such builder", y.pace(-1, 0), BAD);
        due.is("-1", y.pace(0, -1), BAD);
        due.is("above a million", y.pace(0, MILLION + 1), BAD);
    }

    private void planAndBest() {
        promise(19, "plan", "int plan(int s, int what)");
        doc.asks("PLAN: how many (what 0), the set (1); NONE.");
        SummerWall x = fairOnly("10,2;p60;1,1,1a,1,4a");
        due.is("12 less 3: how many", x.plan(0, 0), 3);
        due.is("12 less 3: which", x.plan(0, 1), 1 + 2 + 8);
        x.oath(0, 0);
        due.is("no oath in the way: how many", x.plan(0, 0), 1);
        due.is("no oath in the way: which", x.plan(0, 1), 16);
        x.oath(0, 1);
        x.wall(0, 9);
        due.is("none", x.plan(0, 0), NONE);
        due.is("none", x.plan(0, 1), NONE);
        doc.asks("BAD.");
        int[][] bad = {{-1, 0}, {MILLION + 1, 0}, {0, -1}, {0, 2}};
        for (int[] b : bad) {
            due.is("not as told", x.plan(b[0], b[1]), BAD);
        }

        promise(20, "best", "int best(int hindrance, int what)");
        doc.asks("WHEN: the DAY (what 0), ODDS then (1); NONE.");
        SummerWall y = fairOnly("10,3;p40;4,3");
        due.is("12 less 3 on any day: the first", y.best(1, 0), 0);
        due.is("12 less 3", y.best(1, 1), 0);
        y.wall(0, 8);
        y.use(0);
        due.is("8 on the days to come", y.best(1, 0), 1);
        due.is("8 less 3", y.best(1, 1), 0);
        y.wall(0, 5);
        due.is("8 less 3 are 5", y.best(1, 1), MILLION);
        due.is("so no day is better than today", y.best(1, 0), 0);
        days(y, 3, FAIR);
        due.is("summer", y.best(1, 0), NONE);
        due.is("summer", y.best(1, 1), NONE);
        doc.asks("BAD;");
        int[][] none = {{-1, 0}, {2, 0}, {1, -1}, {1, 2}};
        for (int[] b : none) {
            due.is("not as told", y.best(b[0], b[1]), BAD);
        }
        doc.asks("NOT: it is USED.");
        due.is("used", y.best(0, 0), NOT);
        due.is("BAD is named first", y.best(0, 2), BAD);
        due.is("BAD is named first", y.best(32, 0), BAD);
        y.undo();
        due.is("used", y.best(0, 1), NOT);
    }

    private void soonestAndMean() {
        promise(21, "soonest", "int soonest(int weather)");
        doc.asks("SOONEST; NONE.");
        SummerWall x = of("30,2;p10,w10;2");
        due.is("fair: 2 4 6 8 10 13 16 19 22 26 30", x.soonest(FAIR), 11);
        due.is("frost", x.soonest(FROST), NONE);
        x.use(0);
        due.is("fair, nothing today", x.soonest(FAIR), 12);
        SummerWall today = of("9,2;p90;1");
        today.use(0);
        due.is("what is used costs today", today.soonest(FAIR), 2);
        doc.asks("BAD.");
        due.is("3", x.soonest(3), BAD);
        due.is("-1", x.soonest(-1), BAD);

        promise(22, "mean", "int mean(int n, int what)");
        doc.asks("MEAN: above (what 0), below (1).");
        SummerWall y = of("9,6;p90");
        // 9 on a fair day, 4 in frost, 8 in thaw: 6.3, 0.8, 0.8; behind two days 9, but 8 behind two of frost.
        due.is("7.9", y.mean(1, 0), 79);
        due.is("7.9", y.mean(1, 1), 10);
        due.is("8.96", y.mean(2, 0), 224);
        due.is("8.96", y.mean(2, 1), 25);
        due.is("9", y.mean(3, 0), 9);
        due.is("9", y.mean(3, 1), 1);
        doc.asks("BAD.");
        int[][] bad = {{-1, 0}, {7, 0}, {1, -1}, {1, 2}};
        for (int[] b : bad) {
            due.is("not as told", y.mean(b[0], b[1]), BAD);
        }
        y.day(FAIR);
        due.is("beyond summer", y.mean(6, 0), BAD);
    }

    private void images() {
        promise(23, "image", "int image()");
        doc.asks("All but SHEETS, THE TAPE is kept as an IMAGE: 1.");
        Doing rich = x -> {
            tell(x, "40,8;p30,g11;3a,2,4b");
            x.wall(2, 5);
            x.oath(3, 0);
            x.seed(99);
            x.use(0);
            x.drift(2);
            x.use(1);
        };
        Doing more = x -> {
            type(x, "7,5;");
            x.sheet(1, 2, 3);
            x.item(1, 2, 1, 7);
        };
        SummerWall x = behind(rich);
        due.is("an image", x.image(), 1);
        String then = seen(y -> { rich.on(y); y.image(); more.on(y); });

        promise(24, "restore", "int restore()");
        doc.asks("All is as it was then: 1.");
        tell(x, "1,1;p10");
        due.is("restored", x.restore(), 1);
        due.same("all but the tape and the sheets", seen(y -> {
            rich.on(y);
            y.image();
            y.day(FAIR);
            y.undo();
            y.undo();
            tell(y, "1,1;p10;1d,1d,1d");
            y.day(FAIR);
            y.wall(2, 0);
            y.wall(3, 7);
            y.oath(1, 0);
            y.seed(5);
            more.on(y);
            y.restore();
        }), then);
        doc.asks("NONE: there is none.");
        due.is("none", behind(rich).restore(), NONE);
    }

    private void weather() {
        promise(25, "weather", "int weather(int sheet, int lane, int i, int n, int d)");
        doc.asks("WEATHER by n items of a SHEET taken as a row of a LANE, from item i on: in how many rows (d -1), which on the d-th DAY (0 .. n less 1).");
        SummerWall x = of("60,5;b40");
        x.sheet(2, 1, 6);
        // 4 on a fair day or in frost, 3 in thaw.
        int[] row = {0, 4, 7, 11, 15, 16};
        for (int k = 0; k < 6; k++) {
            x.item(2, 1, k, row[k]);
        }
        due.is("rows", x.weather(2, 1, 1, 4, -1), 8);
        int[] sets = {3, 4, 3, 3};
        for (int d = 0; d < 4; d++) {
            due.is("day " + d, x.weather(2, 1, 1, 4, d), sets[d]);
        }
        due.is("the last item fits none", x.weather(2, 1, 1, 5, -1), 0);
        due.is("from another item on", x.weather(2, 1, 2, 2, -1), 0);
        doc.asks("BAD;");
        int[][] bad = {{-1, 1, 1, 4, 0}, {4, 1, 1, 4, 0}, {2, -1, 1, 4, 0}, {2, 4, 1, 4, 0}, {2, 1, 1, 0, -1}, {2, 1, 1, 9, 0}, {2, 1, 1, 4, -2}, {2, 1, 1, 4, 4}};
        for (int[] b : bad) {
            due.is("not as told", x.weather(b[0], b[1], b[2], b[3], b[4]), BAD);
        }
        doc.asks("NULL;");
        due.is("missing", x.weather(0, 1, 1, 4, 0), NULL);
        doc.asks("CAST;");
        due.is("shorts as ints", x.weather(2, 2, 1, 4, 0), CAST);
        doc.asks("INDEX;");
        due.is("3 and 4", x.weather(2, 1, 3, 4, 0), INDEX);
        due.is("INDEX is named ahead of NOT", x.weather(2, 1, 0, 8, 0), INDEX);
        due.is("from -1", x.weather(2, 1, -1, 4, 0), INDEX);
        doc.asks("NOT: there are not so many DAYS till SUMMER.");
        due.is("6 of 5", x.weather(2, 1, 0, 6, 0), NOT);
        due.that("5 of 5", x.weather(2, 1, 0, 5, 0) >= 0);
        x.day(FAIR);
        due.is("5 of 4", x.weather(2, 1, 0, 5, 0), NOT);
    }

    private void film() {
        promise(26, "film", "int film(int weather, int n, int sheet, int lane, int i)");
        doc.asks("What is LAID behind 1, 2, .. n DAYS (1 .. 24; whether it is SUMMER or not) of a WEATHER, an item each, comes to a SHEET likewise: n.");
        String[] want = {"[037BB0]", "[013570]", "[0258B0]"};
        for (int w = 0; w < 3; w++) {
            SummerWall y = of("11,2;p40;1");
            y.sheet(3, 3, 6);
            y.use(0);
            due.is("four", y.film(w, 4, 3, 3, 1), 4);
            due.is("nothing is laid", y.count(7), 0);
            due.same("in weather " + w, items(y, 3, 3), want[w]);
        }
        SummerWall x = of("11,2;p40");
        x.sheet(0, 0, 24);
        due.is("24", x.film(FAIR, 24, 0, 0, 0), 24);
        days(x, 2, FAIR);
        due.is("in summer", x.film(FAIR, 1, 0, 0, 23), 1);
        doc.asks("BAD;");
        int[][] bad = {{-1, 1, 0, 0, 0}, {3, 1, 0, 0, 0}, {0, 0, 0, 0, 0}, {0, 25, 0, 0, 0}, {0, 1, -1, 0, 0}, {0, 1, 4, 0, 0}, {0, 1, 0, -1, 0}, {0, 1, 0, 4, 0}};
        for (int[] b : bad) {
            due.is("not as told", x.film(b[0], b[1], b[2], b[3], b[4]), BAD);
        }
        doc.asks("NULL;");
        due.is("missing", x.film(FAIR, 1, 1, 0, 0), NULL);
        doc.asks("CAST;");
        due.is("bytes as shorts", x.film(FAIR, 1, 0, 1, 0), CAST);
        doc.asks("INDEX.");
        due.is("24 from 1", x.film(FAIR, 24, 0, 0, 1), INDEX);
        due.is("1 from -1", x.film(FAIR, 1, 0, 0, -1), INDEX);
    }

    private void sheets() {
        promise(27, "sheet", "int sheet(int sheet, int lane, int n)");
        doc.asks("A SHEET holds a new row of a LANE: n.");
        SummerWall x = new SummerWall();
        due.is("three ints", x.sheet(1, 2, 3), 3);
        x.item(1, 2, 0, 9);
        due.is("three shorts", x.sheet(1, 1, 3), 3);
        due.is("they are shorts", laneOf(x, 1), 1);
        SummerWall y = new SummerWall();
        y.sheet(1, 2, 3);
        y.item(1, 2, 0, 9);
        y.sheet(1, 2, 3);
        due.same("they are new", items(y, 1, 2), "[000]");
        doc.asks("BAD: also n above 24;");
        int[][] bad = {{-1, 0, 0}, {4, 0, 0}, {0, -1, 0}, {0, 4, 0}, {0, 0, 25}, {0, 0, HIGH}};
        for (int[] b : bad) {
            due.is("not as told", x.sheet(b[0], b[1], b[2]), BAD);
        }
        doc.asks("SIZE: n below 0.");
        due.is("-1", x.sheet(0, 0, -1), SIZE);
        due.is("the lowest", x.sheet(0, 0, LOW), SIZE);
        due.is("BAD is named first", x.sheet(4, 0, -1), BAD);

        promise(28, "drop", "int drop(int sheet)");
        doc.asks("A SHEET holds nothing: how many items it had.");
        due.is("three", x.drop(1), 3);
        due.is("nothing", laneOf(x, 1), -1);
        doc.asks("BAD;");
        due.is("-1", x.drop(-1), BAD);
        due.is("4", x.drop(4), BAD);
        doc.asks("NULL.");
        due.is("missing", x.drop(1), NULL);
    }

    private void items() {
        promise(29, "item", "int item(int sheet, int lane, int i, long v)");
        doc.asks("Item i of a SHEET, taken as a row of a LANE, becomes v, its lowest bits: 1.");
        long[] v = {(7L << 8) + 5, (7L << 16) + 5, (7L << 32) + 5, 5};
        for (int lane = 0; lane < 4; lane++) {
            SummerWall x = new SummerWall();
            x.sheet(0, lane, 3);
            due.is("the last", x.item(0, lane, 2, v[lane]), 1);
            due.same("lane " + lane, items(x, 0, lane), "[005]");
        }
        SummerWall x = new SummerWall();
        x.sheet(0, 3, 3);
        doc.asks("BAD;");
        int[][] bad = {{-1, 3}, {4, 3}, {0, -1}, {0, 4}};
        for (int[] b : bad) {
            due.is("not as told", x.item(b[0], b[1], 0, 0), BAD);
        }
        doc.asks("NULL;");
        due.is("missing", x.item(1, 3, 0, 0), NULL);
        doc.asks("CAST;");
        due.is("longs as bytes", x.item(0, 0, 0, 0), CAST);
        doc.asks("INDEX.");
        due.is("-1", x.item(0, 3, -1, 0), INDEX);
        due.is("3", x.item(0, 3, 3, 0), INDEX);
    }

    private void copies() {
        promise(30, "copy", "int copy(int from, int i, int to, int j, int n)");
        doc.asks("n items of a SHEET from i on come to another one (or the same) from j on, as if all were taken ahead: n.");
        Doing two = x -> {
            x.sheet(0, 1, 5);
            x.sheet(1, 1, 3);
            x.sheet(2, 0, 5);
            for (int k = 0; k < 5; k++) {
                x.item(0, 1, k, k + 1);
            }
        };
        copied(two, x -> x.copy(0, 2, 1, 1, 2), 2, "[12345]", "[034]");
        copied(two, x -> x.copy(0, 0, 0, 1, 4), 4, "[11234]", "[000]");
        copied(two, x -> x.copy(0, 1, 0, 0, 4), 4, "[23455]", "[000]");
        copied(two, x -> x.copy(0, 5, 1, 3, 0), 0, "[12345]", "[000]");
        SummerWall x = behind(two);
        doc.asks("BAD;");
        due.is("from -1", x.copy(-1, 0, 0, 0, 1), BAD);
        due.is("from 4", x.copy(4, 0, 0, 0, 1), BAD);
        due.is("to -1", x.copy(0, 0, -1, 0, 1), BAD);
        due.is("to 4", x.copy(0, 0, 4, 0, 1), BAD);
        doc.asks("NULL (either);");
        due.is("from is missing", x.copy(3, 0, 0, 0, 1), NULL);
        due.is("to is missing", x.copy(0, 0, 3, 0, 1), NULL);
        doc.asks("CAST: of unlike LANES;");
        due.is("shorts to bytes", x.copy(0, 0, 2, 0, 1), CAST);
        due.is("bytes to shorts", x.copy(2, 0, 0, 0, 1), CAST);
        doc.asks("INDEX.");
        int[][] index = {{-1, 0, 1}, {0, -1, 1}, {0, 0, -1}, {4, 0, 2}, {0, 2, 2}, {HIGH, 0, 1}, {0, HIGH, 1}, {0, 0, HIGH}};
        for (int[] b : index) {
            due.is("beyond", x.copy(0, b[0], 1, b[1], b[2]), INDEX);
        }
    }

    private void copied(Doing two, Asking copy, int want, String from, String to) {
        due.is("how many", copy.on(behind(two)), want);
        String[] rows = {from, to};
        for (int s = 0; s < 2; s++) {
            SummerWall x = behind(two);
            copy.on(x);
            due.same("sheet " + s, items(x, s, 1), rows[s]);
        }
    }
}
