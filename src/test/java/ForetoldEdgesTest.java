/** What is foretold (promises 15 to 22): each sentence with an edge by itself. */
public final class ForetoldEdgesTest extends Edges {
    private static final Due due = new Due("ForetoldEdgesTest");

    public static void main(String[] args) {
        aMillionIfLaid();
        noneInSummer();
        byWeathers();
        dividedIsCut();
        usedTodayCountsToday();
        oddsAtBounds();
        oddsAtUsesNothing();
        sureBounds();
        sureFirstDay();
        sureNone();
        paceBounds();
        paceLeast();
        paceNone();
        planBounds();
        planByOdds();
        planFewest();
        planLeastSet();
        planNotUsedYet();
        planOaths();
        planNone();
        bestBounds();
        bestNot();
        bestNone();
        bestAheadOfSummer();
        bestFirstOfLike();
        bestBesidesWhatIs();
        soonestBounds();
        soonestAtMost();
        soonestWhetherSummer();
        soonestNone();
        meanBounds();
        meanTillSummer();
        meanLowestTerms();
        nothingIsChanged();
        due.end();
    }

    private static void aMillionIfLaid() {
        due.sentence("a MILLION, if they are");
        SummerWall x = fairOnly("9,2;p90");
        due.is("they will be", x.odds(), MILLION);
        x.day(FAIR);
        due.is("they are", x.odds(), MILLION);
        x.day(FAIR);
        due.is("they are, in summer too", x.odds(), MILLION);
        SummerWall one = of("1,1;p10");
        one.day(FAIR);
        due.is("one stone", one.odds(), MILLION);
        due.is("200 stones", allLaid(200).odds(), MILLION);
        SummerWall last = of("10,1;p90");
        last.day(FAIR);
        last.wall(0, 9);
        due.is("fewer stones, none missing", last.odds(), MILLION);
    }

    private static void noneInSummer() {
        due.sentence("else 0, if it is SUMMER");
        SummerWall x = fairOnly("10,1;p90");
        x.day(FAIR);
        due.is("one stone is missing", x.odds(), 0);
        x.wall(1, 2);
        due.is("with a day more", x.odds(), MILLION);
        SummerWall none = new SummerWall();
        due.is("nobody", none.odds(), 0);
        none.wall(1, 1);
        none.day(FAIR);
        due.is("all are missing", none.odds(), 0);
    }

    private static void byWeathers() {
        due.sentence("(ODDS behind a FAIR DAY times (10 less FROST, THAW), behind one of FROST times FROST, of THAW times THAW, added) / 10");
        // On the one day 9 are laid if it is fair, 4 in frost, 8 in thaw.
        for (int frost = 0; frost <= 10; frost++) {
            for (int thaw = 0; frost + thaw <= 10; thaw++) {
                int[][] want = {{4, 10}, {5, 10 - frost}, {8, 10 - frost}, {9, 10 - frost - thaw}, {10, 0}};
                for (int[] w : want) {
                    due.is(w[0] + " stones by " + frost + ", " + thaw, of(w[0] + ",1;p90", frost, thaw).odds(), 100000 * w[1]);
                }
            }
        }
        int[][] alone = {{0, 0, 9}, {10, 0, 4}, {0, 10, 8}};
        for (int[] a : alone) {
            for (int n = 2; n <= 4; n++) {
                due.is(n + " days, just enough", of(a[2] * n + "," + n + ";p90", a[0], a[1]).odds(), MILLION);
                due.is(n + " days, one too many", of(a[2] * n + 1 + "," + n + ";p90", a[0], a[1]).odds(), 0);
            }
        }
        // Two days of fair or thaw lay 16 at least; of fair, frost or thaw such two come 64 times in a hundred.
        due.is("two days", of("16,2;p90", 2, 1).odds(), 640000);
    }

    private static void dividedIsCut() {
        due.sentence("What is divided is cut.");
        // One stone, laid on a fair day alone, of which there are 4 in 10; cut on each day, not once at the end.
        int[] want = {400000, 640000, 784000, 870400, 922240, 953344, 972006, 983203, 989921};
        for (int k = 0; k < want.length; k++) {
            due.is("in " + (k + 1) + " days", of("1," + (k + 1) + ";p10", 3, 3).odds(), want[k]);
        }
        due.is("in forty days it is not sure", of("1,40;p10").odds(), 999999);
    }

    private static void usedTodayCountsToday() {
        due.sentence("What was USED today counts today.");
        SummerWall x = of("4,2;p90;5,9");
        due.is("nothing", x.odds(), MILLION);
        x.wall(1, 1);
        due.is("on the last day", x.odds(), MILLION);
        x.use(0);
        due.is("5 of 9, 4, 8", x.odds(), 700000);
        x.use(1);
        due.is("14 of them", x.odds(), 0);
        x.wall(1, 2);
        due.is("today alone", x.odds(), MILLION);
        x.day(FROST);
        due.is("no longer", x.odds(), MILLION);
    }

    private static void oddsAtBounds() {
        due.sentence("ODDS from a DAY (0 .. DAYS) and so many LAID (0 .. STONES)");
        span(due, "day of 20", 0, 20, v -> new SummerWall().oddsAt(v, 0));
        span(due, "day of 1", 0, 1, v -> of("60,1;p10").oddsAt(v, 0));
        span(due, "day of 40", 0, 40, v -> of("60,40;p10").oddsAt(v, 60));
        span(due, "laid of 60", 0, 60, v -> new SummerWall().oddsAt(0, v));
        span(due, "laid of 1", 0, 1, v -> of("1,40;p10").oddsAt(40, v));
        span(due, "laid of 200", 0, 200, v -> of("200,40;g99").oddsAt(40, v));
        SummerWall x = of("3,2;p10");
        int[][] want = {{0, 490000, 910000, MILLION}, {0, 0, 700000, MILLION}, {0, 0, 0, MILLION}};
        for (int day = 0; day <= 2; day++) {
            for (int laid = 0; laid <= 3; laid++) {
                due.is("day " + day + ", laid " + laid, x.oddsAt(day, laid), want[day][laid]);
            }
        }
        days(x, 2, FAIR);
        due.is("a day gone by", x.oddsAt(0, 1), 490000);
        due.is("fewer than are laid", x.oddsAt(1, 0), 0);
    }

    private static void oddsAtUsesNothing() {
        due.sentence("nothing being USED");
        SummerWall x = of("9,1;p90;1");
        x.use(0);
        due.is("now", x.odds(), 0);
        due.is("from now", x.oddsAt(0, 0), 700000);
    }

    private static void sureBounds() {
        due.sentence("SURE of s (0 .. 1000000)");
        span(due, "s", 0, MILLION, v -> of("5,3;p10").sure(v));
        due.is("0 is today", of("5,3;p10").sure(0), 0);
        due.is("a million", fairOnly("3,3;p10").sure(MILLION), 0);
        due.is("a million", of("3,3;p10").sure(MILLION), 3);
    }

    private static void sureFirstDay() {
        due.sentence("the first DAY from now on, all DAYS till then being FAIR, on which ODDS are s or more");
        SummerWall x = of("2,3;p10;9");
        int[][] want = {{783999, 0}, {784000, 0}, {784001, 1}, {909999, 1}, {910000, 1}, {910001, 2}, {999999, 2}, {MILLION, 2}};
        for (int[] w : want) {
            due.is("s " + w[0], x.sure(w[0]), w[1]);
        }
        x.use(0);
        int[][] hindered = {{490000, 0}, {490001, 2}, {700000, 2}, {700001, 3}, {MILLION, 3}};
        for (int[] w : hindered) {
            due.is("what was used counts: s " + w[0], x.sure(w[0]), w[1]);
        }
        SummerWall later = of("3,5;p10");
        days(later, 3, FROST);
        due.is("the day, not how many", later.sure(0), 3);
        due.is("never any more", later.sure(1), NONE);
        SummerWall summer = of("3,3;p10");
        due.is("on the last day", summer.sure(700000), 2);
        due.is("on the first of summer", summer.sure(700001), 3);
    }

    private static void sureNone() {
        due.sentence("SURE; NONE.");
        due.is("one stone too many", of("4,3;p10").sure(1), NONE);
        due.is("just enough", of("3,3;p10").sure(1), 0);
        due.is("nobody", new SummerWall().sure(1), NONE);
        SummerWall x = of("3,1;p10");
        x.day(FAIR);
        due.is("in summer", x.sure(1), NONE);
        due.is("in summer", x.sure(0), 1);
        x.wall(0, 1);
        due.is("in summer, all laid", x.sure(MILLION), 1);
    }

    private static void paceBounds() {
        due.sentence("PACE for s: ... PACE; NONE. BAD.");
        span(due, "s", 0, MILLION, v -> of("5,3;p10").pace(0, v));
        span(due, "builder of one", 0, 0, v -> of("5,3;p10").pace(v, 0));
        span(due, "builder of four", 0, 3, v -> of("5,3;p10,p10,p10,p10").pace(v, 0));
        due.is("nobody", new SummerWall().pace(0, 0), BAD);
    }

    private static void paceLeast() {
        due.sentence("the least (0 .. 20) that PACE of a BUILDER would have to be more (above 9, too), so that ODDS now are s or more");
        for (int stones = 9; stones <= 29; stones++) {
            due.is(stones + " on a fair day", fairOnly(stones + ",1;p90").pace(0, MILLION), stones - 9);
        }
        SummerWall x = of("9,1;p90");
        int[][] want = {{0, 0}, {1, 0}, {700000, 0}, {700001, 1}, {800000, 1}, {800001, 9}, {MILLION, 9}};
        for (int[] w : want) {
            due.is("s " + w[0], x.pace(0, w[0]), w[1]);
        }
        due.is("he is of pace 9 all the same", x.of(0, 1), 9);
        int[][] kinds = {{'p', 29}, {'h', 38}, {'b', 29}, {'g', 76}, {'w', 29}};
        for (int[] k : kinds) {
            due.is("of kind " + (char) k[0], fairOnly(k[1] + ",1;" + (char) k[0] + "99").pace(0, MILLION), 20);
            due.is("of kind " + (char) k[0], fairOnly(k[1] + 1 + ",1;" + (char) k[0] + "99").pace(0, MILLION), NONE);
        }
        due.is("a giant's counts twice", fairOnly("58,1;g90").pace(0, MILLION), 20);
        due.is("of the second", fairOnly("29,1;g20,p50").pace(1, MILLION), 20);
        due.is("of the first", fairOnly("29,1;g20,p50").pace(0, MILLION), 10);
        SummerWall used = fairOnly("9,1;p90;9");
        used.use(0);
        due.is("what was used counts", used.pace(0, MILLION), 9);
    }

    private static void paceNone() {
        due.sentence("so that ODDS now are s or more; none");
        due.is("20 are enough", fairOnly("29,1;p90").pace(0, MILLION), 20);
        due.is("20 are not", fairOnly("30,1;p90").pace(0, MILLION), NONE);
        due.is("20 are not", fairOnly("30,1;p90").pace(0, 1), NONE);
        due.is("s 0 wants nothing", fairOnly("30,1;p90").pace(0, 0), 0);
        SummerWall x = fairOnly("30,1;p90");
        x.day(FAIR);
        due.is("in summer", x.pace(0, 1), NONE);
        due.is("in summer", x.pace(0, 0), 0);
        x.wall(0, 9);
        due.is("in summer, all laid", x.pace(0, MILLION), 0);
    }

    private static void planBounds() {
        due.sentence("PLAN: how many (what 0), the set (1); NONE. BAD.");
        span(due, "s", 0, MILLION, v -> of("5,3;p10;9").plan(v, 0));
        span(due, "what", 0, 1, v -> of("5,3;p10;9").plan(0, v));
    }

    private static void planByOdds() {
        due.sentence("by which ODDS are s or less");
        SummerWall x = of("9,1;p90;1");
        due.is("odds", x.odds(), 700000);
        due.is("as they are", x.plan(700000, 0), 0);
        due.is("as they are", x.plan(700000, 1), 0);
        due.is("one less", x.plan(699999, 0), 1);
        due.is("one less", x.plan(699999, 1), 1);
        due.is("none at all", x.plan(0, 0), 1);
        due.is("a million", fairOnly("3,3;p10").plan(MILLION, 0), 0);
        due.is("a million less one", fairOnly("3,3;p10").plan(MILLION - 1, 0), NONE);
    }

    private static void planFewest() {
        due.sentence("the fewest HINDRANCES ... all USED today besides");
        for (int pace = 2; pace <= 9; pace++) {
            // Each takes one of what must be two at most for 3 stones.
            int fewest = Math.max(0, pace - 2);
            SummerWall x = fairOnly("3,1;p" + pace + "0;1,1,1,1,1,1");
            due.is("how many of pace " + pace, x.plan(0, 0), fewest <= 6 ? fewest : NONE);
            due.is("which of pace " + pace, x.plan(0, 1), fewest <= 6 ? (1 << fewest) - 1 : NONE);
        }
        SummerWall y = fairOnly("3,1;p50;1,2,3");
        due.is("one that costs as much as two", y.plan(0, 0), 1);
        due.is("one that costs as much as two", y.plan(0, 1), 4);
        SummerWall used = fairOnly("3,1;p50;1,1,1");
        used.use(0);
        due.is("besides what was used today", used.plan(0, 0), 2);
        due.is("besides what was used today", used.plan(0, 1), 6);
    }

    private static void planLeastSet() {
        due.sentence("how many; the least set");
        due.is("of two that do", fairOnly("3,1;p40;1,2,2").plan(0, 1), 2);
        due.is("of pairs", fairOnly("3,1;p50;1,1,2,2").plan(0, 1), 5);
        due.is("the last of six", fairOnly("3,1;p90;1,1,1,1,1,7").plan(0, 1), 32);
        due.is("none is the least", fairOnly("3,1;p20;1,1").plan(0, 1), 0);
    }

    private static void planNotUsedYet() {
        due.sentence("HINDRANCES not USED yet");
        SummerWall x = fairOnly("12,2;p90;7,3,4");
        x.use(0);
        x.day(FAIR);
        due.is("laid", x.count(7), 2);
        x.wall(0, 4);
        due.is("what was used is not there", x.plan(0, 0), NONE);
        x.wall(0, 5);
        due.is("both others", x.plan(0, 1), 6);
    }

    private static void planOaths() {
        due.sentence("none that breaks an OATH that is SWORN");
        for (int oath = 0; oath < 4; oath++) {
            SummerWall x = fairOnly("3,1;p30;1" + "abcd".charAt(oath));
            due.is("sworn", x.plan(0, 1), NONE);
            for (int k = 0; k < 4; k++) {
                x.oath(k, k == oath ? 1 : 0);
            }
            due.is("sworn alone", x.plan(0, 1), NONE);
            for (int k = 0; k < 4; k++) {
                x.oath(k, k == oath ? 0 : 1);
            }
            due.is("not sworn", x.plan(0, 1), 1);
        }
        SummerWall used = fairOnly("3,1;p30;1a");
        used.use(0);
        due.is("one that was used already", used.plan(0, 1), 0);
        SummerWall broken = fairOnly("3,1;p40;1a,1a");
        broken.use(0);
        due.is("broken, but sworn", broken.plan(0, 1), NONE);
        broken.oath(0, 0);
        due.is("sworn no longer", broken.plan(0, 1), 2);
    }

    private static void planNone() {
        due.sentence("the least set; none");
        due.is("all six are too few", fairOnly("3,1;p90;1,1,1,1,1,1").plan(0, 0), NONE);
        due.is("all six are enough", fairOnly("3,1;p80;1,1,1,1,1,1").plan(0, 1), 63);
        due.is("no hindrance", fairOnly("3,1;p90").plan(999999, 1), NONE);
        SummerWall x = fairOnly("3,1;p90;9,9");
        x.day(FAIR);
        due.is("all are laid", x.plan(999999, 0), NONE);
        due.is("all are laid", x.plan(MILLION, 0), 0);
        SummerWall y = fairOnly("10,1;p90;9,9");
        y.day(FAIR);
        due.is("in summer, one missing", y.plan(0, 0), 0);
    }

    private static void bestBounds() {
        due.sentence("WHEN: the DAY (what 0), ODDS then (1); NONE. BAD");
        span(due, "hindrance of one", 0, 0, v -> of("5,3;p10;9").best(v, 0));
        span(due, "hindrance of six", 0, 5, v -> of("5,3;p10;9,9,9,9,9,9").best(v, 0));
        span(due, "what", 0, 1, v -> of("5,3;p10;9").best(0, v));
        due.is("no hindrance", new SummerWall().best(0, 0), BAD);
        due.is("33rd, which a shift would take for the second", of("60,20;p10;1,2").best(33, 0), BAD);
    }

    private static void bestNot() {
        due.sentence("BAD; NOT: it is USED.");
        SummerWall x = of("5,3;p10;9,8");
        due.is("it is not", x.best(0, 0), 0);
        x.use(0);
        due.is("it is", x.best(0, 0), NOT);
        due.is("it is", x.best(0, 1), NOT);
        due.is("the other is not", x.best(1, 0), 0);
        due.is("BAD is named first", x.best(0, 2), BAD);
        x.day(FAIR);
        due.is("since yesterday", x.best(0, 0), NOT);
        x.undo();
        x.undo();
        due.is("undone", x.best(0, 0), 0);
    }

    private static void bestNone() {
        due.sentence("none: it is SUMMER");
        SummerWall x = fairOnly("5,2;p30;9,1");
        x.use(1);
        x.day(FAIR);
        due.is("on the last day", x.best(0, 0), 1);
        due.is("on the last day", x.best(0, 1), 0);
        x.day(FAIR);
        due.is("in summer", x.best(0, 0), NONE);
        due.is("in summer", x.best(0, 1), NONE);
        due.is("in summer BAD", x.best(2, 0), BAD);
        due.is("in summer BAD", x.best(0, 2), BAD);
        x.wall(1, 3);
        due.is("a day more", x.best(0, 0), 2);
    }

    private static void bestAheadOfSummer() {
        due.sentence("the DAY from today on (ahead of SUMMER)");
        // Today nothing is left to be hindered, so each later day would do; a day gone by or summer would not.
        for (int day = 0; day < 5; day++) {
            SummerWall x = fairOnly("200,5;p20;9,2");
            days(x, day, FAIR);
            x.wall(0, 8);
            x.use(0);
            due.is("today it costs nothing more, on day " + day, x.best(1, 0), Math.min(day + 1, 4));
        }
        SummerWall last = fairOnly("2,1;p20;1");
        due.is("the only day", last.best(0, 0), 0);
        due.is("the only day", last.best(0, 1), 0);
    }

    private static void bestFirstOfLike() {
        due.sentence("it makes ODDS now least, of like ones the first; how much");
        SummerWall x = fairOnly("5,3;p20;2");
        due.is("each day would do", x.best(0, 0), 0);
        due.is("each day would do", x.best(0, 1), 0);
        x.wall(0, 4);
        due.is("no day would do", x.best(0, 0), 0);
        due.is("no day would do", x.best(0, 1), MILLION);
        SummerWall y = fairOnly("10,3;p50;3,3");
        y.use(0);
        due.is("today it takes 2, on either other day 3", y.best(1, 0), 1);
        due.is("how much", y.best(1, 1), 0);
        y.day(FAIR);
        due.is("tomorrow is today", y.best(1, 0), 1);
        due.is("all are laid", bestWhenLaid(0), 2);
        due.is("all are laid", bestWhenLaid(1), MILLION);
    }

    private static int bestWhenLaid(int what) {
        SummerWall x = fairOnly("4,5;p20;9");
        days(x, 2, FAIR);
        return x.best(0, what);
    }

    private static void bestBesidesWhatIs() {
        due.sentence("USED alone (today besides what is)");
        SummerWall x = fairOnly("5,1;p90;2,3,9");
        x.use(0);
        due.is("2 and 3 of 9", x.best(1, 1), 0);
        x.wall(0, 4);
        due.is("2 and 3 of 9", x.best(1, 1), MILLION);
        due.is("none other besides", x.best(2, 1), 0);
        x.wall(1, 2);
        x.wall(0, 14);
        due.is("what is used today counts for tomorrow's, too", x.best(1, 1), 0);
        x.wall(0, 13);
        due.is("4 and 9, 7 and 6 are enough", x.best(1, 1), MILLION);
    }

    private static void soonestBounds() {
        due.sentence("SOONEST: how many DAYS from now, all FAIR (0), of FROST (1), of THAW (2)");
        span(due, "weather", 0, 2, v -> of("5,3;p90").soonest(v));
        int[] want = {4, 9, 5};
        for (int w = 0; w < 3; w++) {
            due.is("36 by weather " + w, of("36,3;p90").soonest(w), want[w]);
        }
        int[] more = {5, 10, 5};
        for (int w = 0; w < 3; w++) {
            due.is("37 by weather " + w, of("37,3;p90").soonest(w), more[w]);
        }
    }

    private static void soonestAtMost() {
        due.sentence("till all STONES are LAID (99 at most");
        due.is("98", of("98,5;p10").soonest(FAIR), 98);
        due.is("99", of("99,5;p10").soonest(FAIR), 99);
        due.is("100", of("100,5;p10").soonest(FAIR), NONE);
        due.is("198 by two", of("198,5;p20").soonest(FAIR), 99);
        due.is("199 by two", of("199,5;p20").soonest(FAIR), NONE);
        SummerWall today = of("9,5;p90;1");
        due.is("in one day", today.soonest(FAIR), 1);
        today.use(0);
        due.is("what was used counts today", today.soonest(FAIR), 2);
        SummerWall used = of("98,5;p10;1");
        used.use(0);
        due.is("a day is lost by what was used", used.soonest(FAIR), 99);
        used.wall(0, 99);
        due.is("a day is lost by what was used", used.soonest(FAIR), NONE);
    }

    private static void soonestWhetherSummer() {
        due.sentence("whether it is SUMMER or not");
        SummerWall x = of("20,1;p50");
        due.is("beyond summer", x.soonest(FAIR), 4);
        x.day(FAIR);
        due.is("in summer", x.soonest(FAIR), 3);
        x.wall(0, 5);
        due.is("all are laid", x.soonest(FAIR), 0);
        due.is("all are laid", x.soonest(FROST), 0);
    }

    private static void soonestNone() {
        due.sentence("SOONEST; NONE. BAD.");
        due.is("nobody", new SummerWall().soonest(FAIR), NONE);
        due.is("nothing in frost", of("1,5;p10").soonest(FROST), NONE);
        due.is("nothing in thaw", of("1,5;p10").soonest(THAW), NONE);
        due.is("one on a fair day", of("1,5;p10").soonest(FAIR), 1);
        due.is("blind in frost", of("1,5;b10").soonest(FROST), 1);
    }

    private static void meanBounds() {
        due.sentence("MEAN of what is LAID behind n DAYS (0 .. 6");
        span(due, "n", 0, 6, v -> of("60,40;p30").mean(v, 0));
        span(due, "what", 0, 1, v -> of("60,40;p30").mean(3, v));
        SummerWall x = of("60,40;p30");
        x.day(FROST);
        due.is("behind no day", x.mean(0, 0), 1);
        due.is("behind no day", x.mean(0, 1), 1);
        int[][] want = {{0, 1}, {5, 2}, {5, 1}, {15, 2}, {10, 1}, {25, 2}, {15, 1}};
        SummerWall y = of("60,40;p30");
        for (int n = 0; n <= 6; n++) {
            due.is("above", y.mean(n, 0), want[n][0]);
            due.is("below", y.mean(n, 1), want[n][1]);
        }
    }

    private static void meanTillSummer() {
        due.sentence("no more than there are till SUMMER");
        for (int left = 0; left <= 7; left++) {
            SummerWall x = of("60,7;p30");
            days(x, 7 - left, FAIR);
            for (int n = 0; n <= 7; n++) {
                boolean good = n <= left && n <= 6;
                due.is(n + " of " + left, x.mean(n, 1) == BAD ? BAD : 0, good ? 0 : BAD);
                due.is(n + " of " + left, x.mean(n, 0) == BAD ? BAD : 0, good ? 0 : BAD);
            }
        }
    }

    private static void meanLowestTerms() {
        due.sentence("as a fraction in lowest terms");
        mean(new SummerWall(), 6, 0, 1);
        mean(of("1,9;p10"), 6, 999271, 1000000);
        mean(of("1,9;p10"), 1, 7, 10);
        mean(of("1,9;p10", 5, 0), 1, 1, 2);
        mean(of("1,9;p10", 5, 0), 6, 63, 64);
        mean(of("1,9;p10", 2, 0), 2, 24, 25);
        mean(fairOnly("200,9;g99"), 6, 200, 1);
        mean(fairOnly("200,9;g99"), 5, 180, 1);
        mean(of("200,9;p90", 10, 0), 6, 24, 1);
        mean(of("200,9;p90", 0, 10), 6, 48, 1);
        SummerWall used = of("60,9;p30;2,9");
        used.use(0);
        mean(used, 1, 7, 10);
        mean(used, 2, 16, 5);
        used.use(1);
        mean(used, 1, 0, 1);
        mean(used, 2, 5, 2);
    }

    private static void mean(SummerWall x, int n, int above, int below) {
        due.is("above, behind " + n, x.mean(n, 0), above);
        due.is("below, behind " + n, x.mean(n, 1), below);
    }

    private static void nothingIsChanged() {
        due.sentence("FORETOLD (nothing is changed)");
        Doing rich = x -> {
            tell(x, "50,9;p30,w25,g12;3a,2b,4,1c,5d");
            x.oath(3, 0);
            x.seed(77);
            x.image();
            x.use(0);
            x.day(FAIR);
            x.use(4);
            type(x, "7,5;p1");
            x.sheet(0, 2, 3);
            x.item(0, 2, 1, 5);
        };
        Asking[] calls = {x -> x.odds(), x -> x.oddsAt(3, 9), x -> x.sure(999999), x -> x.pace(1, MILLION), x -> x.plan(0, 1), x -> x.best(2, 0),
            x -> x.soonest(FROST), x -> x.mean(6, 0), x -> x.weather(0, 2, 0, 3, -1), x -> x.of(0, 3), x -> x.count(7)};
        String before = seen(rich);
        for (int k = 0; k < calls.length; k++) {
            Asking call = calls[k];
            due.that("call " + k + " has an answer", call.on(behind(rich)) >= NONE);
            due.same("behind call " + k, seen(x -> { rich.on(x); call.on(x); call.on(x); }), before);
        }
    }
}
