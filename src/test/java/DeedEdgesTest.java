/** What is done and undone (promises 10 to 14): each sentence with an edge by itself. */
public final class DeedEdgesTest extends Edges {
    private static final Due due = new Due("DeedEdgesTest");

    public static void main(String[] args) {
        weathers();
        summerEndsDays();
        nothingLeft();
        together();
        stonesAtMost();
        byLaidAhead();
        nextDay();
        whichHindrance();
        usedOnce();
        noUseInSummer();
        costsThatDayAlone();
        brokenForGood();
        howLongADrift();
        toSummerAtMost();
        lotsOfADrift();
        drawOf31Bits();
        seeds();
        noneToUndo();
        eightAreKnown();
        undoneAsAhead();
        whateverWasTold();
        nothingLeftToBeUndone();
        drawsUndone();
        due.end();
    }

    private static void weathers() {
        due.sentence("A DAY of a WEATHER: STONES that were LAID. BAD");
        span(due, "weather", 0, 2, v -> of("60,20;p90").day(v));
        int[] want = {9, 4, 8};
        for (int w = 0; w < 3; w++) {
            SummerWall x = of("60,20;p90");
            due.is("laid", x.day(w), want[w]);
            due.is("laid in all", x.count(7), want[w]);
        }
    }

    private static void summerEndsDays() {
        due.sentence("BAD; FULL: it is SUMMER.");
        for (int n : new int[] {1, 2, 40}) {
            SummerWall x = of("200," + n + ";p10");
            for (int k = 0; k < n; k++) {
                due.is("day " + k + " of " + n, x.day(FAIR), 1);
            }
            due.is("summer", x.day(FAIR), FULL);
            due.is("summer", x.day(THAW), FULL);
            due.is("BAD is named first", x.day(3), BAD);
            due.is("BAD is named first", x.day(-1), BAD);
            counts(due, "refused", x, 1, 0, 200, n, 2, 1, n, n, 0, 0, 0, 15, Math.min(8, n));
        }
    }

    private static void nothingLeft() {
        due.sentence("costs so much of what all LAY on it together (0 is left at least)");
        int[] left = {4, 3, 2, 1, 0, 0, 0, 0, 0};
        for (int cost = 1; cost <= 9; cost++) {
            SummerWall x = of("60,20;p50;" + cost);
            x.use(0);
            due.is("cost " + cost + " of 5", x.day(FAIR), left[cost - 1]);
            due.is("nothing is taken back", x.count(7), left[cost - 1]);
        }
        SummerWall none = new SummerWall();
        none.hindrance(9, NONE);
        none.use(0);
        due.is("of nobody's work", none.day(FAIR), 0);
        SummerWall all = of("200,20;g99,g99;9,9,9,9,9,9");
        for (int k = 0; k < 6; k++) {
            due.is("all six", all.use(k), 9 * (k + 1));
        }
        due.is("54 of 72", all.day(FAIR), 18);
    }

    private static void together() {
        due.sentence("of what all LAY on it together");
        SummerWall x = of("60,20;p30,p20;4");
        x.use(0);
        due.is("not of each one's", x.day(FAIR), 1);
        SummerWall y = of("60,20;p50;2,2");
        y.use(0);
        y.use(1);
        due.is("two together", y.day(FAIR), 1);
    }

    private static void stonesAtMost() {
        due.sentence("is LAID (STONES at most)");
        int[][] want = {{1, 1}, {8, 8}, {9, 9}, {10, 9}, {11, 9}};
        for (int[] w : want) {
            SummerWall x = of(w[0] + ",20;p90");
            due.is("of " + w[0], x.day(FAIR), w[1]);
            due.is("of " + w[0] + " on another day", x.day(FAIR), w[0] - w[1]);
            due.is("of " + w[0] + " on a third", x.day(FAIR), 0);
            due.is("all", x.count(7), w[0]);
        }
        SummerWall used = of("5,20;p90;4");
        used.use(0);
        due.is("what was used is taken first", used.day(FAIR), 5);
        SummerWall less = of("6,20;p90;4");
        less.use(0);
        due.is("what was used is taken first", less.day(FAIR), 5);
        due.is("200", allLaid(200).count(7), 200);
    }

    private static void byLaidAhead() {
        due.sentence("what all LAY (by LAID ahead of it)");
        SummerWall x = of("200,20;p90,w10");
        due.is("by 0", x.day(FAIR), 10);
        due.is("by 10", x.day(FAIR), 11);
        due.is("by 21", x.day(FAIR), 12);
        SummerWall y = of("200,20;p80,w10");
        due.is("by 0", y.day(FAIR), 9);
        due.is("by 9", y.day(FAIR), 9);
        due.is("by 18", y.day(FAIR), 10);
    }

    private static void nextDay() {
        due.sentence("it is the next DAY");
        SummerWall x = of("1,40;p90");
        for (int k = 0; k < 40; k++) {
            due.is("day", x.count(6), k);
            due.is("all are laid at once", x.day(k % 3), k == 0 ? 1 : 0);
        }
        due.is("summer", x.count(6), 40);
    }

    private static void whichHindrance() {
        due.sentence("A HINDRANCE is USED: what all cost today. BAD");
        span(due, "hindrance of two", 0, 1, v -> of("60,20;p10;1,2").use(v));
        span(due, "hindrance of six", 0, 5, v -> of("60,20;p10;1,2,3,4,5,6").use(v));
        due.is("33rd, which a shift would take for the second", of("60,20;p10;1,2").use(33), BAD);
    }

    private static void usedOnce() {
        due.sentence("each can be USED once ... NOT: it was");
        SummerWall x = of("60,3;p10;1,2");
        due.is("once", x.use(1), 2);
        due.is("again", x.use(1), NOT);
        due.is("refused", x.count(9), 2);
        x.day(FAIR);
        due.is("on another day", x.use(1), NOT);
        due.is("the other one", x.use(0), 1);
        days(x, 2, FAIR);
        due.is("in summer NOT is named first", x.use(1), NOT);
        due.is("used", x.count(8), 3);
        x.hindrance(3, NONE);
        due.is("still", x.use(1), NOT);
    }

    private static void noUseInSummer() {
        due.sentence("NOT: it was; FULL: it is SUMMER.");
        SummerWall x = of("60,2;p10;1,2,3");
        x.day(FAIR);
        due.is("on the last day", x.use(0), 1);
        x.day(FAIR);
        due.is("in summer", x.use(1), FULL);
        due.is("BAD is named first", x.use(3), BAD);
        counts(due, "refused", x, 1, 3, 60, 2, 2, 1, 2, 1, 1, 0, 0, 15, 3);
        x.wall(1, 3);
        due.is("when summer is later", x.use(1), 2);
    }

    private static void costsThatDayAlone() {
        due.sentence("What is USED on a DAY costs so much of what all LAY on it");
        SummerWall x = of("60,20;p50;3,1");
        x.use(0);
        due.is("today", x.count(9), 3);
        due.is("today", x.day(FAIR), 2);
        due.is("tomorrow", x.count(9), 0);
        due.is("one of tomorrow's", x.use(1), 1);
        due.is("tomorrow", x.day(FAIR), 4);
        due.is("then", x.day(FAIR), 5);
        due.is("both are used", x.count(8), 3);
    }

    private static void brokenForGood() {
        due.sentence("an OATH that is SWORN then and broken by it is BROKEN for good");
        SummerWall x = of("60,20;p10;1a,1b,1,1b");
        x.oath(1, 0);
        x.use(1);
        due.is("not sworn then", x.count(10), 0);
        x.oath(1, 1);
        due.is("sworn later", x.count(10), 0);
        x.use(2);
        due.is("one that breaks none", x.count(10), 0);
        x.use(3);
        due.is("sworn then", x.count(10), 2);
        x.oath(1, 0);
        due.is("not sworn later", x.count(10), 2);
        x.day(FAIR);
        x.oath(1, 1);
        due.is("on another day", x.count(10), 2);
        x.use(0);
        due.is("another one", x.count(10), 3);
        due.is("a broken oath is sworn still", x.count(11), 15);
    }

    private static void howLongADrift() {
        due.sentence("A DRIFT of n DAYS (1 .. 40");
        span(due, "n", 1, 40, v -> of("200,40;p90").drift(v));
        for (int n = 1; n <= 40; n++) {
            SummerWall x = of("200,40;p10", 0, 0);
            due.is("laid", x.drift(n), n);
            due.is("day", x.count(6), n);
        }
    }

    private static void toSummerAtMost() {
        due.sentence("to SUMMER at most): STONES that were LAID. BAD; FULL: it is SUMMER.");
        for (int n = 1; n <= 5; n++) {
            SummerWall x = of("200,3;p10", 0, 0);
            due.is("laid in " + n, x.drift(n), Math.min(3, n));
            due.is("day", x.count(6), Math.min(3, n));
            due.is("draws", x.seed(0), drawn(1, Math.min(3, n)));
        }
        SummerWall x = of("200,3;p10");
        x.drift(40);
        x.seed(77);
        due.is("summer", x.drift(1), FULL);
        due.is("summer", x.drift(40), FULL);
        due.is("BAD is named first", x.drift(0), BAD);
        due.is("BAD is named first", x.drift(41), BAD);
        due.is("no draw was made", x.seed(0), 77);
        due.is("day", x.count(6), 3);
        SummerWall capped = fairOnly("3,9;p20");
        due.is("no more than there are", capped.drift(9), 3);
        SummerWall used = fairOnly("60,9;p20;9");
        used.use(0);
        due.is("what was used costs the first day alone", used.drift(3), 4);
    }

    private static void lotsOfADrift() {
        due.sentence("left over by 10, is less than FROST ... less than FROST and THAW together, of THAW; else FAIR");
        for (int frost = 0; frost <= 10; frost++) {
            for (int thaw = 0; frost + thaw <= 10; thaw++) {
                for (int lot = 0; lot < 10; lot++) {
                    SummerWall x = of("60,20;p90", frost, thaw);
                    x.seed(seedOf(lot));
                    int want = lot < frost ? 4 : lot < frost + thaw ? 8 : 9;
                    due.is("lot " + lot + " by " + frost + ", " + thaw, x.drift(1), want);
                }
            }
        }
    }

    private static void drawOf31Bits() {
        due.sentence("the lowest 31 bits of itself times 1103515245 and 12345 more");
        int[] draws = {0, 1, 2, 65535, 65536, 1 << 30, (1 << 30) - 1, HIGH - 1, HIGH, 12345, 1103515245};
        for (int v : draws) {
            SummerWall x = of("200,40;p90");
            x.seed(v);
            x.drift(1);
            due.is("of " + v, x.seed(v), drawn(v, 1));
            x.drift(7);
            due.is("of " + v + " seven times", x.seed(v), drawn(v, 7));
        }
        SummerWall day = of("200,40;p90;1");
        day.day(FROST);
        day.use(0);
        due.is("a day by itself, a use draw nothing", day.seed(0), 1);
    }

    private static void seeds() {
        due.sentence("THE DRAW becomes v: what it was. BAD: below 0.");
        span(due, "seed", 0, HIGH, v -> new SummerWall().seed(v));
        SummerWall x = new SummerWall();
        due.is("of -1", x.seed(-1), BAD);
        due.is("refused", x.seed(0), 1);
        due.is("0", x.seed(HIGH), 0);
        due.is("the highest", x.seed(1), HIGH);
    }

    private static void noneToUndo() {
        due.sentence("UNDONE: how many more may be. NONE: none is known.");
        SummerWall x = of("60,20;p10;1");
        due.is("none yet", x.undo(), NONE);
        x.day(FAIR);
        due.is("the only one", x.undo(), 0);
        due.is("none any more", x.undo(), NONE);
        due.is("day", x.count(6), 0);
        x.use(0);
        x.day(FAIR);
        due.is("one of two", x.undo(), 1);
        due.is("the other", x.undo(), 0);
        due.is("none any more", x.undo(), NONE);
    }

    private static void eightAreKnown() {
        due.sentence("(8 are known, older ones lost)");
        for (int n = 0; n <= 20; n++) {
            SummerWall x = of("200,40;p10");
            days(x, n, FAIR);
            int known = Math.min(8, n);
            due.is("of " + n, x.count(12), known);
            for (int k = known - 1; k >= 0; k--) {
                due.is("of " + n, x.undo(), k);
            }
            due.is("older ones", x.undo(), NONE);
            due.is("day", x.count(6), n - known);
            due.is("laid", x.count(7), n - known);
        }
        SummerWall uses = of("60,20;p10;1,1,1,1,1,1");
        for (int k = 0; k < 6; k++) {
            uses.use(k);
        }
        due.is("six uses", uses.count(12), 6);
        days(uses, 3, FAIR);
        due.is("nine deeds", uses.count(12), 8);
        for (int k = 0; k < 9; k++) {
            uses.undo();
        }
        due.is("the oldest one stays", uses.count(8), 1);
        due.is("the oldest one stays", uses.count(9), 1);
        SummerWall drift = of("60,20;p10");
        drift.drift(9);
        due.is("each day of a drift by itself", drift.count(12), 8);
        SummerWall round = of("200,40;p10");
        for (int k = 0; k < 5; k++) {
            days(round, 6, FAIR);
            due.is("some undone", round.undo() + round.undo() + round.undo(), round.count(12) * 3 + 3);
        }
        due.is("day", round.count(6), 15);
        for (int k = 0; k < 8; k++) {
            round.undo();
        }
        due.is("day", round.count(6), 10);
    }

    private static void undoneAsAhead() {
        due.sentence("DAY, LAID, what is USED, was USED today, BROKEN, THE DRAW are as ahead of it");
        Doing ahead = x -> {
            tell(x, "60,20;p50,w30;1a,2b,3c,4");
            x.oath(2, 0);
            x.use(0);
            x.drift(1);
            x.use(1);
        };
        Doing[] deeds = {x -> x.day(FAIR), x -> x.day(FROST), x -> x.day(THAW), x -> x.drift(1), x -> x.use(2), x -> x.use(3)};
        for (int k = 0; k < deeds.length; k++) {
            Doing deed = deeds[k];
            due.same("deed " + k, seen(x -> { ahead.on(x); deed.on(x); x.undo(); }), seen(ahead));
        }
        SummerWall x = behind(ahead);
        x.use(3);
        x.undo();
        due.is("it can be used again", x.use(3), 6);
        SummerWall y = of("60,1;p50;1");
        y.day(FAIR);
        due.is("summer", y.use(0), FULL);
        y.undo();
        due.is("it is winter again", y.use(0), 1);
    }

    private static void whateverWasTold() {
        due.sentence("as ahead of it, whatever was told since");
        SummerWall x = of("60,20;p50;1a,2b");
        x.use(0);
        x.day(FAIR);
        x.wall(0, 70);
        x.wall(1, 30);
        x.wall(2, 5);
        x.wall(3, 4);
        x.oath(0, 0);
        x.oath(3, 0);
        x.seed(99);
        x.undo();
        counts(due, "a day", x, 1, 2, 70, 30, 5, 4, 0, 0, 1, 1, 1, 6, 1);
        due.is("the draw", x.seed(98), 1);
        x.undo();
        counts(due, "a use", x, 1, 2, 70, 30, 5, 4, 0, 0, 0, 0, 0, 6, 0);
        due.is("the draw", x.seed(97), 1);
        x.use(0);
        due.is("its oath is not sworn now", x.count(10), 0);
        SummerWall last = of("60,20;p50");
        last.day(FAIR);
        last.wall(0, 5);
        last.wall(1, 1);
        last.undo();
        counts(due, "in a smaller wall", last, 1, 0, 5, 1, 2, 1, 0, 0, 0, 0, 0, 15, 0);
    }

    private static void nothingLeftToBeUndone() {
        due.sentence("a BARGAIN, a new BUILDER, HINDRANCE leave nothing to be UNDONE");
        Doing two = x -> {
            tell(x, "60,20;p50,p10,p10;1,2,3,4,5");
            x.use(0);
            x.day(FAIR);
        };
        Asking[] empty = {x -> x.builder(0, 1, 0), x -> x.hindrance(1, NONE), x -> tell(x, "7,5;p10")};
        for (int k = 0; k < empty.length; k++) {
            SummerWall x = behind(two);
            due.is("two", x.count(12), 2);
            due.that("call " + k, empty[k].on(x) >= 0);
            due.is("nothing", x.count(12), 0);
            due.is("nothing", x.undo(), NONE);
        }
        SummerWall y = behind(two);
        y.builder(0, 1, 0);
        y.hindrance(1, NONE);
        y.day(FAIR);
        Asking[] leave = {x -> x.builder(0, 1, 0), x -> x.builder(0, 0, 0), x -> x.hindrance(1, NONE), x -> x.hindrance(0, NONE), x -> tell(x, "7,5"),
            x -> x.wall(0, 70), x -> x.wall(1, 30), x -> x.wall(2, 3), x -> x.wall(3, 3), x -> x.oath(0, 0), x -> x.seed(7), x -> x.image(), x -> x.odds(),
            x -> x.type(' '), x -> x.sheet(0, 0, 3), x -> x.item(0, 0, 0, 1), x -> x.film(0, 3, 0, 0, 0), x -> x.copy(0, 0, 0, 1, 2), x -> x.drop(0)};
        for (int k = 0; k < leave.length; k++) {
            leave[k].on(y);
            due.is("call " + k + " leaves it", y.count(12), 1);
        }
    }

    private static void drawsUndone() {
        due.sentence("ahead of each DAY of a DRIFT it becomes");
        SummerWall x = of("200,40;p90");
        x.drift(5);
        for (int k = 4; k >= 0; k--) {
            due.is("undone", x.undo(), k);
            int draw = drawn(1, k);
            due.is("the draw ahead of day " + k, x.seed(draw), draw);
        }
        int first = x.drift(5);
        for (int k = 0; k < 5; k++) {
            x.undo();
        }
        due.is("the same drift again", x.drift(5), first);
    }

    /** What the draw becomes in so many times. */
    private static int drawn(int draw, int times) {
        java.math.BigInteger d = java.math.BigInteger.valueOf(draw);
        for (int k = 0; k < times; k++) {
            d = d.multiply(java.math.BigInteger.valueOf(1103515245)).add(java.math.BigInteger.valueOf(12345)).mod(java.math.BigInteger.ONE.shiftLeft(31));
        }
        return d.intValueExact();
    }

    private static int seedOf(int lot) {
        for (int v = 0; ; v += 7) {
            if (drawn(v, 1) / 65536 % 10 == lot) {
                return v;
            }
        }
    }
}
