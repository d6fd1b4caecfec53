/** Each promise of the document by hand: ordinary inputs, the edges it names, wrong inputs. */
public final class PromiseTest {
    private static final int BAD = -1, NOT = -2, FULL = -3, NONE = -4, NULL = -11, CAST = -12, INDEX = -13, SIZE = -14;
    private static final int LOW = Integer.MIN_VALUE, HIGH = Integer.MAX_VALUE;
    private static final Due due = new Due("PromiseTest");

    public static void main(String[] args) {
        newObject();
        builder();
        of();
        wall();
        hindrance();
        oath();
        type();
        bargain();
        bargainFaults();
        count();
        day();
        use();
        drift();
        undo();
        undoKnowsEight();
        seed();
        odds();
        oddsAt();
        sure();
        pace();
        plan();
        best();
        soonest();
        mean();
        image();
        restore();
        weather();
        film();
        sheet();
        drop();
        item();
        copy();
        due.end();
    }

    private static int told(SummerWall x, String text) {
        for (char c : text.toCharArray()) {
            x.type(c);
        }
        return x.bargain();
    }

    private static SummerWall of(String text) {
        SummerWall x = new SummerWall();
        due.that("a bargain: " + text, told(x, text) > 0);
        return x;
    }

    private static SummerWall fairOnly(String text) {
        SummerWall x = of(text);
        x.wall(2, 0);
        x.wall(3, 0);
        return x;
    }

    private static void counts(String when, SummerWall x, int... want) {
        for (int k = 0; k < want.length; k++) {
            due.is(when + ": count(" + k + ")", x.count(k), want[k]);
        }
    }

    private static void newObject() {
        SummerWall x = new SummerWall();
        counts("new", x, 0, 0, 60, 20, 2, 1, 0, 0, 0, 0, 0, 15, 0);
        due.is("new: seed", x.seed(5), 1);
        due.is("new: type", x.type('a'), 1);
        due.is("new: restore", x.restore(), NONE);
        due.is("new: undo", x.undo(), NONE);
        for (int k = 0; k < 4; k++) {
            due.is("new: drop " + k, x.drop(k), NULL);
        }
        SummerWall other = new SummerWall();
        x.builder(0, 1, 0);
        due.is("another object stays as it is", other.count(0), 0);
    }

    private static void builder() {
        SummerWall x = new SummerWall();
        int[][] bad = {{-1, 1, 0}, {5, 1, 0}, {0, 0, 0}, {0, 10, 0}, {0, 1, -1}, {0, 1, 10}, {LOW, 1, 0}, {0, HIGH, 0}, {0, 1, HIGH}};
        for (int[] b : bad) {
            due.is("builder bad", x.builder(b[0], b[1], b[2]), BAD);
        }
        due.is("nobody came", x.count(0), 0);
        x.day(0);
        x.builder(9, 9, 9);
        due.is("a refused builder leaves what may be undone", x.count(12), 1);
        due.is("builder 0", x.builder(0, 1, 0), 0);
        due.is("a new builder leaves nothing to be undone", x.count(12), 0);
        due.is("builder 1", x.builder(4, 9, 9), 1);
        due.is("builder 2", x.builder(2, 5, 3), 2);
        due.is("builder 3", x.builder(3, 2, 7), 3);
        x.day(0);
        due.is("builder full", x.builder(1, 1, 1), FULL);
        due.is("a full house leaves what may be undone", x.count(12), 1);
        due.is("bad ahead of full", x.builder(5, 1, 1), BAD);
        due.is("builders", x.count(0), 4);
    }

    private static void of() {
        int[][] want = {{0, 5, 3, 5, 5, 2, 4}, {1, 5, 3, 8, 8, 4, 7}, {2, 5, 3, 5, 5, 5, 4}, {3, 5, 3, 16, 16, 8, 13}, {4, 5, 3, 5, 5, 2, 4}};
        for (int kind = 0; kind < 5; kind++) {
            SummerWall x = new SummerWall();
            x.builder(kind, 5, 3);
            for (int what = 0; what < 7; what++) {
                due.is("kind " + kind + ", of " + what, x.of(0, what), want[kind][what]);
            }
            due.is("of bad", x.of(0, 7), BAD);
            due.is("of bad", x.of(0, -1), BAD);
            due.is("of bad", x.of(1, 0), BAD);
            due.is("of bad", x.of(-1, 0), BAD);
            due.is("of bad", x.of(HIGH, 0), BAD);
        }
        SummerWall small = of("60,20;p10,g10,g11");
        due.is("plain 1 in frost", small.of(0, 5), 0);
        due.is("plain 1 in thaw", small.of(0, 6), 0);
        due.is("giant 2 fair", small.of(1, 4), 2);
        due.is("giant 2 in thaw", small.of(1, 6), 0);
        due.is("giant 4 in thaw", small.of(2, 6), 1);
        SummerWall paid = of("200,20;w30,p70");
        int[] laid = {10, 21, 33, 46, 60};
        for (int l : laid) {
            due.is("paid hauls by what is laid", paid.of(0, 3), 3 + paid.count(7) / 10);
            paid.day(0);
            due.is("paid", paid.count(7), l);
        }
        due.is("paid fair", paid.of(0, 4), 9);
        due.is("paid in frost", paid.of(0, 5), 4);
        due.is("paid in thaw", paid.of(0, 6), 8);
    }

    private static void wall() {
        SummerWall x = of("60,20;p90");
        due.is("frost was", x.wall(2, 9), 2);
        due.is("thaw above ten together", x.wall(3, 2), NOT);
        due.is("thaw was", x.wall(3, 0), 1);
        due.is("frost was", x.wall(2, 10), 9);
        due.is("frost and thaw above ten", x.wall(3, 1), NOT);
        due.is("frost was", x.wall(2, 0), 10);
        due.is("thaw was", x.wall(3, 10), 0);
        due.is("frost and thaw above ten", x.wall(2, 1), NOT);
        int[][] bad = {{-1, 5}, {4, 5}, {0, 0}, {0, 201}, {0, -1}, {1, 0}, {1, 41}, {2, -1}, {2, 11}, {3, -1}, {3, 11}, {2, HIGH}, {0, LOW}};
        for (int[] b : bad) {
            due.is("wall bad " + b[0] + " " + b[1], x.wall(b[0], b[1]), BAD);
        }
        x.day(0);
        x.day(0);
        due.is("fewer stones than laid", x.wall(0, 17), NOT);
        due.is("as many stones as laid", x.wall(0, 18), 60);
        due.is("stones were", x.wall(0, 200), 18);
        due.is("fewer days than day", x.wall(1, 1), NOT);
        due.is("as many days as day", x.wall(1, 2), 20);
        due.is("it is summer", x.day(0), FULL);
        due.is("days were", x.wall(1, 40), 2);
        due.is("it is winter again", x.day(0), 9);
        counts("wall", x, 1, 0, 200, 40, 0, 10, 3, 27, 0, 0, 0, 15, 3);
    }

    private static void hindrance() {
        SummerWall x = new SummerWall();
        int[][] bad = {{0, NONE}, {10, NONE}, {5, -1}, {5, 4}, {5, -3}, {5, -5}, {LOW, 0}, {5, HIGH}};
        for (int[] b : bad) {
            due.is("hindrance bad " + b[0] + " " + b[1], x.hindrance(b[0], b[1]), BAD);
        }
        x.day(0);
        x.hindrance(0, 0);
        due.is("a refused hindrance leaves what may be undone", x.count(12), 1);
        due.is("hindrance 0", x.hindrance(1, NONE), 0);
        due.is("a new hindrance leaves nothing to be undone", x.count(12), 0);
        due.is("hindrance 1", x.hindrance(9, 3), 1);
        for (int k = 2; k < 6; k++) {
            due.is("hindrance " + k, x.hindrance(k, 0), k);
        }
        due.is("hindrance full", x.hindrance(1, NONE), FULL);
        due.is("bad ahead of full", x.hindrance(0, NONE), BAD);
        due.is("hindrances", x.count(1), 6);
        due.is("cost", x.use(1), 9);
        due.is("it breaks oath 3", x.count(10), 8);
        due.is("cost together", x.use(0), 10);
        due.is("it breaks none", x.count(10), 8);
    }

    private static void oath() {
        SummerWall x = new SummerWall();
        int[][] bad = {{-1, 0}, {4, 0}, {0, 2}, {0, -1}, {HIGH, 1}, {32, 1}};
        for (int[] b : bad) {
            due.is("oath bad", x.oath(b[0], b[1]), BAD);
        }
        due.is("sworn", x.count(11), 15);
        due.is("was sworn", x.oath(2, 0), 1);
        due.is("sworn", x.count(11), 11);
        due.is("was not sworn", x.oath(2, 0), 0);
        due.is("was not sworn", x.oath(2, 1), 0);
        due.is("was sworn", x.oath(2, 1), 1);
        due.is("sworn", x.count(11), 15);
        x.hindrance(1, 2);
        x.use(0);
        x.oath(2, 0);
        due.is("broken for good, sworn or not", x.count(10), 4);
    }

    private static void type() {
        SummerWall x = new SummerWall();
        due.is("type bad", x.type(31), BAD);
        due.is("type bad", x.type(127), BAD);
        due.is("type bad", x.type(-1), BAD);
        due.is("type bad", x.type(HIGH), BAD);
        for (int k = 1; k <= 60; k++) {
            due.is("type", x.type(k % 2 == 0 ? 32 : 126), k);
        }
        due.is("type full", x.type('a'), FULL);
        due.is("bad ahead of full", x.type(10), BAD);
        due.is("a fault", x.bargain(), -20);
        due.is("the tape is empty", x.type('a'), 1);
    }

    private static void bargain() {
        SummerWall x = new SummerWall();
        x.wall(2, 4);
        x.wall(3, 3);
        x.oath(1, 0);
        x.seed(77);
        due.is("a whole one", told(x, "200,40;p10,h29,b33,g94;1,2a,3b,4c,5d,9"), 4);
        counts("bargain", x, 4, 6, 200, 40, 4, 3, 0, 0, 0, 0, 0, 13, 0);
        due.is("the draw stays", x.seed(77), 77);
        int[][] want = {{0, 1, 0}, {1, 2, 9}, {2, 3, 3}, {3, 9, 4}};
        for (int b = 0; b < 4; b++) {
            for (int what = 0; what < 3; what++) {
                due.is("builder " + b, x.of(b, what), want[b][what]);
            }
        }
        int[] costs = {1, 3, 6, 10, 15, 24};
        for (int h = 0; h < 6; h++) {
            due.is("hindrance " + h, x.use(h), costs[h]);
        }
        due.is("oath 1 was not sworn", x.count(10), 13);
        x.day(0);
        due.is("a second one", told(x, " 1 , 1 ; w 1 0 "), 1);
        counts("in place of the first", x, 1, 0, 1, 1, 4, 3, 0, 0, 0, 0, 0, 13, 0);
        due.is("kind w", x.of(0, 0), 4);
        due.is("nothing to be undone", x.undo(), NONE);
        due.is("leading noughts", told(x, "007,010;p10"), 1);
        due.is("stones", x.count(2), 7);
        due.is("days", x.count(3), 10);
        due.is("sixty letters", told(x, "  200 , 40 ; p10 , h29 , b33 , g94 ; 1 , 2a , 3b , 4c , 5d,9"), 4);
    }

    private static void bargainFaults() {
        Object[][] faults = {
            {"", -20}, {"   ", -23}, {"x", -20}, {"  x", -22}, {"0", -20}, {"201", -20}, {" 201,5;p10", -21}, {"9999", -20}, {"1000,5;p10", -23},
            {"0020,5;p10", -23}, {"2001", -23}, {" 2001,5;p10", -24}, {"2010,5;p10", -20}, {"0000,5;p10", -20}, {"00001", -20}, {"1111111111", -23},
            {"7,0101", -25}, {"7,0101;p10", -25}, {"7, 0101;p10", -26}, {"7,0410;p10", -22}, {"7,0001;p10", -22}, {"7,4000;p10", -22}, {"7,010 1;p10", -26},
            {"200 1,5;p10", -24}, {"2 0,5;p10", -22}, {"20", -22}, {"20  ", -24}, {"20;5", -22}, {"20,", -23}, {"20, 0;p10", -24}, {"20,41;p10", -23},
            {"20,005 1;p10", -27}, {"20,5", -24}, {"20,5,p10", -24}, {"20,5;", -25}, {"20,5;P10", -25}, {"20,5;1", -25}, {"20,5;p", -26},
            {"20,5;p0", -26}, {"20,5;pp", -26}, {"20,5;p1", -27}, {"20,5;p1x", -27}, {"20,5;p100", -28}, {"20,5;p10,", -29}, {"20,5;p10,;", -29},
            {"20,5;p10p10", -28}, {"20,5;p10,p10,p10,p10,p10", -40}, {"20,5;p10,p10,p10,p10 ,p10", -41}, {"20,5;p10;", -29}, {"20,5;p10;0", -29},
            {"20,5;p10;a", -29}, {"20,5;p10;12", -30}, {"20,5;p10;1e", -30}, {"20,5;p10;1ab", -31}, {"20,5;p10;1a;", -31}, {"20,5;p10;1a,", -32},
            {"20,5;p10;1,1,1,1,1,1,1", -40}, {"20,5;p10;1,1,1,1,1,1a,1", -41}, {"20,5;p10;1 b  x", -34}, {"-1,5;p10", -20}, {"20.", -22},
        };
        for (Object[] f : faults) {
            SummerWall x = of("60,20;p30;2a");
            x.use(0);
            x.day(0);
            due.is("fault in '" + f[0] + "'", told(x, (String) f[0]), (Integer) f[1]);
            counts("all else stays", x, 1, 1, 60, 20, 2, 1, 1, 1, 1, 0, 1, 15, 2);
            due.is("the tape is empty", x.type('a'), 1);
        }
    }

    private static void count() {
        SummerWall x = of("50,9;p90,g22;3,2b,4c");
        x.oath(2, 0);
        x.use(1);
        x.use(2);
        counts("today", x, 2, 3, 50, 9, 2, 1, 0, 0, 6, 6, 2, 11, 2);
        x.day(1);
        counts("tomorrow", x, 2, 3, 50, 9, 2, 1, 1, 2, 6, 0, 2, 11, 3);
        due.is("count bad", x.count(-1), BAD);
        due.is("count bad", x.count(13), BAD);
        due.is("count bad", x.count(LOW), BAD);
    }

    private static void day() {
        SummerWall x = of("30,4;p50,b40,g30;9,9,9");
        due.is("day bad", x.day(-1), BAD);
        due.is("day bad", x.day(3), BAD);
        due.is("frost", x.day(1), 2 + 4 + 3);
        due.is("thaw", x.day(2), 4 + 3 + 3);
        x.use(0);
        x.use(1);
        due.is("nothing is left", x.day(0), 0);
        due.is("no more stones than there are", x.day(0), 11);
        due.is("summer", x.day(0), FULL);
        due.is("bad ahead of full", x.day(3), BAD);
        counts("day", x, 3, 3, 30, 4, 2, 1, 4, 30, 3, 0, 0, 15, 6);
        SummerWall done = of("3,5;p30");
        due.is("all are laid", done.day(0), 3);
        due.is("none is left", done.day(0), 0);
        due.is("it is the next day all the same", done.count(6), 2);
    }

    private static void use() {
        SummerWall x = of("50,2;p90;3,2b,4b");
        due.is("use bad", x.use(-1), BAD);
        due.is("use bad", x.use(3), BAD);
        due.is("use bad", x.use(32), BAD);
        due.is("use", x.use(0), 3);
        due.is("no oath is broken", x.count(10), 0);
        due.is("use", x.use(1), 5);
        due.is("an oath is broken", x.count(10), 2);
        due.is("it was", x.use(0), NOT);
        due.is("less", x.day(0), 4);
        due.is("it was, another day", x.use(0), NOT);
        due.is("no longer today", x.count(9), 0);
        due.is("all of it", x.day(0), 9);
        due.is("it was, ahead of summer", x.use(0), NOT);
        due.is("summer", x.use(2), FULL);
        due.is("bad ahead of summer", x.use(3), BAD);
        due.is("not used", x.count(8), 3);
    }

    private static void drift() {
        // The lots of this draw from 1 on by ten: 8 8 3 5 1 7 0 9 2 6.
        int[] lays = {9, 9, 9, 9, 4, 9, 4, 9, 8, 9};
        SummerWall x = of("200,20;p90");
        for (int l : lays) {
            due.is("drift", x.drift(1), l);
        }
        SummerWall y = of("200,20;p90");
        due.is("drift bad", y.drift(0), BAD);
        due.is("drift bad", y.drift(41), BAD);
        due.is("drift bad", y.drift(-1), BAD);
        due.is("drift of ten", y.drift(10), 79);
        due.is("each day may be undone", y.count(12), 8);
        int tenth = y.seed(0);
        due.is("the same draw", x.seed(0), tenth);
        due.is("the lot", tenth / 65536, 4086);
        due.that("to summer at most", y.drift(40) > 0 && y.count(6) == 20);
        due.is("summer", y.drift(1), FULL);
        due.is("bad ahead of summer", y.drift(0), BAD);
        SummerWall frost = of("200,3;p90;5");
        frost.wall(3, 0);
        frost.wall(2, 10);
        frost.use(0);
        due.is("what is used costs the first day", frost.drift(3), 4 + 4);
        SummerWall thaw = of("200,3;p90");
        thaw.wall(2, 0);
        thaw.wall(3, 10);
        due.is("thaw", thaw.drift(40), 24);
        SummerWall one = of("200,3;p90");
        one.drift(1);
        due.is("the draw", one.seed(0), 1103527590);
        one.drift(1);
        due.is("the draw of 0", one.seed(HIGH), 12345);
        one.drift(1);
        due.is("the draw of the highest", one.seed(0), (int) ((HIGH * 1103515245L + 12345) & HIGH));
    }

    private static void undo() {
        SummerWall x = of("50,9;p90;3a,2b");
        x.use(0);
        x.day(0);
        x.use(1);
        x.oath(0, 0);
        x.wall(0, 60);
        x.seed(9);
        due.is("undo a use", x.undo(), 2);
        counts("undone", x, 1, 2, 60, 9, 2, 1, 1, 6, 1, 0, 1, 14, 2);
        due.is("the draw as ahead of it", x.seed(5), 1);
        due.is("undo a day", x.undo(), 1);
        counts("undone", x, 1, 2, 60, 9, 2, 1, 0, 0, 1, 3, 1, 14, 1);
        due.is("undo a use", x.undo(), 0);
        counts("undone", x, 1, 2, 60, 9, 2, 1, 0, 0, 0, 0, 0, 14, 0);
        due.is("none is known", x.undo(), NONE);
        due.is("it can be used again", x.use(0), 3);
        due.is("its oath is not sworn now", x.count(10), 0);
        SummerWall d = of("200,9;p90");
        d.drift(2);
        due.is("a day of a drift", d.undo(), 1);
        due.is("laid", d.count(7), 9);
        due.is("the draw ahead of it", d.seed(3), 1103527590);
        due.is("the first day", d.undo(), 0);
        due.is("the draw ahead of all", d.seed(3), 1);
        SummerWall bad = of("50,1;p90;3");
        bad.day(0);
        bad.day(0);
        bad.use(0);
        bad.drift(1);
        bad.day(7);
        due.is("what is refused is nothing to be undone", bad.count(12), 1);
    }

    private static void undoKnowsEight() {
        SummerWall x = of("200,40;p10");
        for (int k = 0; k < 11; k++) {
            x.day(0);
            due.is("known", x.count(12), Math.min(8, k + 1));
        }
        for (int k = 7; k >= 0; k--) {
            due.is("undo", x.undo(), k);
            due.is("day", x.count(6), 3 + k);
            due.is("laid", x.count(7), 3 + k);
        }
        due.is("older ones are lost", x.undo(), NONE);
        due.is("day", x.count(6), 3);
    }

    private static void seed() {
        SummerWall x = new SummerWall();
        due.is("seed bad", x.seed(-1), BAD);
        due.is("seed bad", x.seed(LOW), BAD);
        due.is("seed", x.seed(0), 1);
        due.is("seed", x.seed(HIGH), 0);
        due.is("seed", x.seed(1), HIGH);
        due.is("a seed is nothing to be undone", x.count(12), 0);
    }

    private static void odds() {
        // One stone, laid on a fair day alone: each day more leaves three parts of ten, cut.
        int[] want = {700000, 910000, 973000, 991900, 997570, 999271, 999781, 999934, 999980, 999994, 999998, 999999, 999999};
        for (int k = 0; k < want.length; k++) {
            due.is("odds in " + (k + 1) + " days", of("1," + (k + 1) + ";p10").odds(), want[k]);
        }
        SummerWall x = of("2,2;p20;1,9");
        due.is("odds", x.odds(), 1000000);
        x.use(0);
        due.is("what was used today counts today", x.odds(), 910000);
        x.use(1);
        due.is("nothing is laid today", x.odds(), 700000);
        x.wall(1, 1);
        due.is("the last day", x.odds(), 0);
        x.day(0);
        due.is("summer", x.odds(), 0);
        x.wall(1, 2);
        due.is("a day more, what was used counts no longer", x.odds(), 700000);
        x.day(0);
        due.is("all are laid by summer", x.odds(), 1000000);
        due.is("nobody", new SummerWall().odds(), 0);
        SummerWall frost = of("4,2;p40");
        frost.wall(3, 0);
        frost.wall(2, 10);
        due.is("frost alone", frost.odds(), 1000000);
        frost.wall(0, 5);
        due.is("frost alone", frost.odds(), 0);
        int before = frost.count(7) + frost.count(6) + frost.count(12);
        due.is("nothing is changed", before, 0);
    }

    private static void oddsAt() {
        SummerWall x = of("2,3;p10;9");
        x.use(0);
        int[][] want = {{784000, 973000, 1000000}, {490000, 910000, 1000000}, {0, 700000, 1000000}, {0, 0, 1000000}};
        for (int d = 0; d <= 3; d++) {
            for (int l = 0; l <= 2; l++) {
                due.is("oddsAt " + d + " " + l, x.oddsAt(d, l), want[d][l]);
            }
        }
        int[][] bad = {{-1, 0}, {4, 0}, {0, -1}, {0, 3}, {HIGH, 0}, {0, LOW}};
        for (int[] b : bad) {
            due.is("oddsAt bad", x.oddsAt(b[0], b[1]), BAD);
        }
        x.day(0);
        x.day(0);
        due.is("days gone by may be asked for", x.oddsAt(0, 0), 784000);
    }

    private static void sure() {
        SummerWall x = of("2,3;p10;9");
        due.is("sure bad", x.sure(-1), BAD);
        due.is("sure bad", x.sure(1000001), BAD);
        due.is("sure now", x.sure(784000), 0);
        due.is("sure tomorrow", x.sure(784001), 1);
        due.is("sure tomorrow", x.sure(910000), 1);
        due.is("sure when all are laid", x.sure(910001), 2);
        x.use(0);
        due.is("what was used counts", x.sure(490001), 2);
        due.is("sure", x.sure(700001), 3);
        x.undo();
        x.day(0);
        due.is("the day, not how many", x.sure(910000), 1);
        due.is("the day, not how many", x.sure(1000000), 2);
        x.day(1);
        x.day(1);
        due.is("summer", x.sure(1), NONE);
        due.is("summer", x.sure(0), 3);
        SummerWall y = of("3,2;p10");
        due.is("never", y.sure(1), NONE);
        SummerWall z = of("3,3;p10");
        due.is("on the first of summer itself", z.sure(1000000), 3);
    }

    private static void pace() {
        SummerWall x = of("3,1;p10;2");
        due.is("pace bad", x.pace(-1, 0), BAD);
        due.is("pace bad", x.pace(1, 0), BAD);
        due.is("pace bad", x.pace(0, -1), BAD);
        due.is("pace bad", x.pace(0, 1000001), BAD);
        int[][] want = {{0, 0}, {1, 2}, {700000, 2}, {700001, 3}, {800000, 3}, {800001, 5}, {1000000, 5}};
        for (int[] w : want) {
            due.is("pace for " + w[0], x.pace(0, w[0]), w[1]);
        }
        x.use(0);
        due.is("what was used counts", x.pace(0, 1), 4);
        due.is("nothing is changed", x.of(0, 1), 1);
        due.is("above nine", of("29,1;p90").pace(0, 1), 20);
        due.is("none", of("30,1;p90").pace(0, 1), NONE);
        due.is("of one of them", of("9,1;p10,g10").pace(1, 700000), 3);
        due.is("of the other", of("9,1;p10,g10").pace(0, 700000), 6);
        SummerWall y = of("3,1;p10");
        y.day(1);
        due.is("summer", y.pace(0, 1), NONE);
        due.is("summer", y.pace(0, 0), 0);
    }

    private static void plan() {
        SummerWall x = of("3,1;p90;2,2,3,6");
        x.wall(2, 0);
        x.wall(3, 0);
        int[][] bad = {{-1, 0}, {1000001, 0}, {0, -1}, {0, 2}};
        for (int[] b : bad) {
            due.is("plan bad", x.plan(b[0], b[1]), BAD);
        }
        due.is("plan of none", x.plan(1000000, 0), 0);
        due.is("plan of none", x.plan(1000000, 1), 0);
        due.is("the fewest", x.plan(0, 0), 2);
        due.is("the least set of the fewest", x.plan(0, 1), 9);
        x.use(3);
        due.is("besides what was used", x.plan(999999, 0), 1);
        due.is("besides what was used", x.plan(999999, 1), 1);
        x.undo();
        x.wall(1, 2);
        x.use(3);
        x.day(0);
        x.wall(0, 6);
        due.is("what was used is gone", x.plan(0, 0), 3);
        due.is("what was used is gone", x.plan(0, 1), 7);
        SummerWall y = fairOnly("3,1;p30;1a,1,1b");
        due.is("no broken oath", y.plan(0, 1), 2);
        y.oath(0, 0);
        due.is("an oath that is not sworn", y.plan(0, 1), 1);
        y.oath(0, 1);
        y.use(2);
        due.is("it is done", y.plan(0, 0), 0);
        SummerWall broken = fairOnly("3,2;p30;1a,1a");
        due.is("all break an oath", broken.plan(0, 0), NONE);
        broken.use(0);
        broken.day(0);
        broken.wall(0, 5);
        due.is("a broken oath is sworn still", broken.plan(0, 1), NONE);
        broken.oath(0, 0);
        due.is("it is sworn no longer", broken.plan(0, 1), 2);
        SummerWall summer = fairOnly("3,1;p30;9,9");
        summer.day(0);
        due.is("all are laid", summer.plan(999999, 0), NONE);
        due.is("none is the least", summer.plan(1000000, 1), 0);
        due.is("nothing is changed", summer.count(8), 0);
    }

    private static void best() {
        SummerWall x = of("3,2;p20;1,9a");
        int[][] bad = {{-1, 0}, {2, 0}, {0, -1}, {0, 2}, {HIGH, 0}};
        for (int[] b : bad) {
            due.is("best bad", x.best(b[0], b[1]), BAD);
        }
        due.is("of like ones the first", x.best(0, 0), 0);
        due.is("how much", x.best(0, 1), 490000);
        SummerWall y = fairOnly("2,2;p20;9,2");
        y.use(0);
        due.is("today it costs nothing more", y.best(1, 0), 1);
        due.is("how much", y.best(1, 1), 0);
        due.is("it is used", y.best(0, 0), NOT);
        due.is("bad ahead of used", y.best(0, 2), BAD);
        y.day(0);
        due.is("the last day", y.best(1, 0), 1);
        due.is("it was used", y.best(0, 1), NOT);
        y.day(0);
        due.is("summer", y.best(1, 0), NONE);
        due.is("summer", y.best(1, 1), NONE);
        due.is("used, in summer", y.best(0, 0), NOT);
        due.is("bad, in summer", y.best(2, 0), BAD);
        SummerWall both = fairOnly("4,2;p30;1,1");
        both.use(0);
        due.is("today besides what is", both.best(1, 0), 0);
        due.is("today besides what is", both.best(1, 1), 1000000);
        both.wall(0, 5);
        due.is("with it one too few", both.best(1, 1), 0);
        SummerWall laid = fairOnly("2,5;p20;9");
        laid.day(0);
        due.is("all are laid", laid.best(0, 0), 1);
        due.is("all are laid", laid.best(0, 1), 1000000);
    }

    private static void soonest() {
        SummerWall x = of("99,5;p10");
        due.is("soonest bad", x.soonest(-1), BAD);
        due.is("soonest bad", x.soonest(3), BAD);
        due.is("ninety-nine", x.soonest(0), 99);
        due.is("never", x.soonest(1), NONE);
        due.is("never", x.soonest(2), NONE);
        x.wall(0, 100);
        due.is("more than ninety-nine", x.soonest(0), NONE);
        SummerWall y = of("10,1;p50;4");
        due.is("fair", y.soonest(0), 2);
        due.is("frost", y.soonest(1), 5);
        due.is("thaw", y.soonest(2), 3);
        y.use(0);
        due.is("what was used counts", y.soonest(0), 3);
        due.is("what was used counts", y.soonest(1), 6);
        y.day(0);
        due.is("in summer too", y.soonest(0), 2);
        y.wall(0, 1);
        due.is("all are laid", y.soonest(2), 0);
    }

    private static void mean() {
        SummerWall x = of("60,6;p30;3");
        int[][] bad = {{-1, 0}, {7, 0}, {0, 2}, {0, -1}, {HIGH, 0}};
        for (int[] b : bad) {
            due.is("mean bad", x.mean(b[0], b[1]), BAD);
        }
        int[][] want = {{0, 1}, {5, 2}, {5, 1}, {15, 2}, {10, 1}, {25, 2}, {15, 1}};
        for (int n = 0; n <= 6; n++) {
            due.is("mean above", x.mean(n, 0), want[n][0]);
            due.is("mean below", x.mean(n, 1), want[n][1]);
        }
        x.use(0);
        due.is("what was used counts today", x.mean(1, 0), 0);
        due.is("lowest terms", x.mean(1, 1), 1);
        due.is("what was used counts today alone", x.mean(2, 0), 5);
        x.day(0);
        due.is("no more than till summer", x.mean(6, 0), BAD);
        due.is("till summer", x.mean(5, 0), 25);
        x.wall(0, 2);
        due.is("no more than there are", x.mean(1, 0), 9);
        due.is("no more than there are", x.mean(1, 1), 5);
        due.is("no days", x.mean(0, 0), 0);
        SummerWall high = fairOnly("200,6;g99");
        due.is("the highest", high.mean(6, 0), 200);
        due.is("the highest", high.mean(6, 1), 1);
    }

    private static void image() {
        SummerWall x = of("50,9;p90;3a,2b");
        x.type('7');
        x.sheet(0, 2, 3);
        x.use(0);
        x.wall(2, 5);
        x.wall(3, 4);
        x.oath(3, 0);
        x.seed(99);
        due.is("image", x.image(), 1);
        due.is("an image changes nothing", x.count(12), 1);
        x.day(0);
        x.sheet(0, 1, 4);
        x.sheet(1, 3, 2);
        told(x, "0,5;p10");
        x.type('8');
        told(x, ",7;g11;1");
        x.oath(3, 1);
        x.oath(0, 0);
        x.wall(3, 1);
        x.wall(2, 9);
        x.seed(1);
        x.type('8');
        due.is("restore", x.restore(), 1);
        counts("as it was", x, 1, 2, 50, 9, 5, 4, 0, 0, 1, 3, 1, 7, 1);
        due.is("kind", x.of(0, 0), 0);
        due.is("pace", x.of(0, 1), 9);
        due.is("the draw", x.seed(99), 99);
        due.is("the tape is not in it", x.type('8'), 2);
        due.is("sheets are not in it", x.drop(0), 4);
        due.is("sheets are not in it", x.drop(1), 2);
        due.is("what may be undone is", x.undo(), 0);
        due.is("undone", x.count(8), 0);
        due.is("a later image", x.image(), 1);
        x.day(0);
        x.restore();
        due.is("in place of the first", x.count(8), 0);
    }

    private static void restore() {
        SummerWall x = new SummerWall();
        due.is("restore none", x.restore(), NONE);
        x.image();
        x.builder(0, 9, 0);
        x.hindrance(4, 2);
        x.use(0);
        for (int k = 0; k < 3; k++) {
            due.is("restore as often as one likes", x.restore(), 1);
            counts("as new", x, 0, 0, 60, 20, 2, 1, 0, 0, 0, 0, 0, 15, 0);
            x.hindrance(1 + k, 0);
            x.use(0);
            x.day(0);
        }
        SummerWall y = of("50,9;p90;3a,2b");
        y.day(0);
        y.image();
        y.undo();
        y.use(0);
        y.restore();
        due.is("what may be undone is as it was", y.undo(), 0);
        due.is("laid", y.count(7), 0);
        due.is("nothing is used", y.count(8), 0);
    }

    private static void weather() {
        // Fair 3, frost 1, thaw 2; the last stones fit all weathers.
        SummerWall x = of("6,4;p30;2");
        x.sheet(0, 3, 10);
        long[] row = {3, 5, 6, 6};
        for (int k = 0; k < 4; k++) {
            x.item(0, 3, 2 + k, row[k]);
        }
        due.is("rows", x.weather(0, 3, 2, 2, -1), 1);
        due.is("rows", x.weather(0, 3, 2, 4, -1), 9);
        int[] sets = {1, 4, 7, 7};
        for (int d = 0; d < 4; d++) {
            due.is("weathers on day " + d, x.weather(0, 3, 2, 4, d), sets[d]);
        }
        due.is("no such row", x.weather(0, 3, 1, 2, -1), 0);
        x.item(0, 3, 5, 5);
        due.is("no such row by its end", x.weather(0, 3, 2, 4, -1), 0);
        due.is("no weather, then, on any day", x.weather(0, 3, 2, 4, 0), 0);
        x.item(0, 3, 2, (1L << 32) + 3);
        due.is("a long is taken whole", x.weather(0, 3, 2, 1, -1), 0);
        x.item(0, 3, 2, 0);
        x.use(0);
        due.is("what was used counts: frost, thaw", x.weather(0, 3, 2, 1, 0), 6);
        due.is("rows", x.weather(0, 3, 2, 1, -1), 2);
        x.item(0, 3, 3, 3);
        due.is("but today alone", x.weather(0, 3, 2, 2, 1), 1);
        int[][] bad = {{-1, 3, 0, 1, 0}, {4, 3, 0, 1, 0}, {0, -1, 0, 1, 0}, {0, 4, 0, 1, 0}, {0, 3, 0, 0, -1}, {0, 3, 0, 9, 0},
            {0, 3, 0, 2, -2}, {0, 3, 0, 2, 2}, {1, 3, 0, 9, 0}, {0, 3, -1, 1, HIGH}};
        for (int[] b : bad) {
            due.is("weather bad", x.weather(b[0], b[1], b[2], b[3], b[4]), BAD);
        }
        due.is("null", x.weather(1, 0, 99, 8, 0), NULL);
        due.is("cast", x.weather(0, 2, 99, 8, 0), CAST);
        due.is("index", x.weather(0, 3, 3, 8, 0), INDEX);
        due.is("index", x.weather(0, 3, -1, 1, 0), INDEX);
        due.is("index", x.weather(0, 3, HIGH, 8, 0), INDEX);
        due.is("not so many days", x.weather(0, 3, 0, 5, 0), NOT);
        due.is("so many days", x.weather(0, 3, 0, 4, 0), 0);
        SummerWall none = new SummerWall();
        none.sheet(0, 0, 8);
        due.is("all rows of eight", none.weather(0, 0, 0, 8, -1), 6561);
        none.wall(2, 0);
        none.wall(3, 0);
        due.is("whatever is likely", none.weather(0, 0, 0, 8, -1), 6561);
    }

    private static void film() {
        SummerWall x = of("7,2;p30;2");
        x.use(0);
        int[][] want = {{1, 4, 7, 7}, {0, 1, 2, 3}, {0, 2, 4, 6}};
        for (int lane = 0; lane < 4; lane++) {
            x.sheet(lane, lane, 6);
            for (int w = 0; w < 3; w++) {
                due.is("film", x.film(w, 4, lane, lane, 1), 4);
                due.is("film of two, told again", x.weather(lane, lane, 1, 2, 1), w == 0 ? 1 : w == 1 ? 2 : 4);
                x.wall(1, 9);
                for (int k = 0; k < 4; k++) {
                    filmed(x, lane, 1 + k, want[w][k]);
                }
                x.wall(1, 2);
            }
        }
        int[][] bad = {{-1, 1, 0, 0, 0}, {3, 1, 0, 0, 0}, {0, 0, 0, 0, 0}, {0, 25, 0, 0, 0}, {0, 1, -1, 0, 0}, {0, 1, 4, 0, 0}, {0, 1, 0, -1, 0}, {0, 1, 0, 4, 0}};
        for (int[] b : bad) {
            due.is("film bad", x.film(b[0], b[1], b[2], b[3], b[4]), BAD);
        }
        due.is("cast", x.film(0, 24, 0, 1, 99), CAST);
        due.is("index", x.film(0, 6, 0, 0, 1), INDEX);
        due.is("index", x.film(0, 1, 0, 0, -1), INDEX);
        due.is("index", x.film(0, 1, 0, 0, HIGH), INDEX);
        x.drop(1);
        due.is("null", x.film(0, 24, 1, 0, 99), NULL);
        filmed(x, 0, 4, 6);
        x.sheet(1, 2, 24);
        due.is("twenty-four", x.film(0, 24, 1, 2, 0), 24);
        SummerWall high = of("200,40;g99");
        high.sheet(0, 0, 6);
        high.sheet(1, 1, 6);
        due.is("bytes", high.film(0, 6, 0, 0, 0), 6);
        due.is("shorts", high.film(0, 6, 1, 1, 0), 6);
        due.is("a short holds 200, to which fair and thaw come", high.weather(1, 1, 0, 6, -1), 2);
        due.is("a byte holds its lowest bits, below 0 here", high.weather(0, 0, 0, 6, -1), 0);
        due.is("a byte holds 108", high.weather(0, 0, 0, 3, -1), 1);
    }

    /** That an item is as said: with nobody at work and so much laid, all weathers fit it. */
    private static void filmed(SummerWall x, int sheet, int i, int want) {
        SummerWall still = new SummerWall();
        due.that("sheets are an object's own", still.drop(sheet) == NULL);
        x.image();
        told(x, "200,40;p10");
        for (int k = 0; k < want; k++) {
            x.day(0);
        }
        // A plain builder of pace 1 lays nothing in frost or in thaw.
        due.is("item " + i + " of sheet " + sheet, x.weather(sheet, sheet, i, 1, 0), 6);
        x.restore();
    }

    private static void sheet() {
        SummerWall x = new SummerWall();
        int[][] bad = {{-1, 0, 1}, {4, 0, 1}, {0, -1, 1}, {0, 4, 1}, {0, 0, 25}, {0, 0, HIGH}, {4, 0, -1}, {0, 4, -1}};
        for (int[] b : bad) {
            due.is("sheet bad", x.sheet(b[0], b[1], b[2]), BAD);
        }
        due.is("size", x.sheet(0, 0, -1), SIZE);
        due.is("size", x.sheet(0, 0, LOW), SIZE);
        due.is("refused", x.drop(0), NULL);
        due.is("empty", x.sheet(0, 0, 0), 0);
        due.is("no item", x.item(0, 0, 0, 1), INDEX);
        due.is("twenty-four", x.sheet(0, 3, 24), 24);
        due.is("the last item", x.item(0, 3, 23, 9), 1);
        due.is("the first item", x.item(0, 3, 0, 9), 1);
        due.is("it is 9", x.weather(0, 3, 23, 1, -1), 0);
        due.is("a new row", x.sheet(0, 3, 24), 24);
        due.is("all are 0", x.weather(0, 3, 23, 1, -1), 3);
        due.is("all are 0", x.weather(0, 3, 0, 1, -1), 3);
        x.sheet(0, 3, 5);
        x.sheet(0, 3, -1);
        x.sheet(0, 3, 25);
        due.is("what is refused changes nothing", x.drop(0), 5);
    }

    private static void drop() {
        SummerWall x = new SummerWall();
        due.is("drop bad", x.drop(-1), BAD);
        due.is("drop bad", x.drop(4), BAD);
        due.is("null", x.drop(3), NULL);
        x.sheet(3, 1, 0);
        due.is("an empty one", x.drop(3), 0);
        due.is("null", x.drop(3), NULL);
        x.sheet(3, 1, 24);
        due.is("a full one", x.drop(3), 24);
        due.is("it holds nothing", x.item(3, 1, 0, 0), NULL);
    }

    private static void item() {
        SummerWall x = new SummerWall();
        for (int lane = 0; lane < 4; lane++) {
            x.sheet(lane, lane, 2);
            long above = lane == 0 ? 1L << 8 : lane == 1 ? 1L << 16 : 1L << 32;
            due.is("item", x.item(lane, lane, 1, -1), 1);
            due.is("it is not 0", x.weather(lane, lane, 1, 1, -1), 0);
            due.is("item", x.item(lane, lane, 1, above), 1);
            due.is("its lowest bits", x.weather(lane, lane, 1, 1, -1), lane < 3 ? 3 : 0);
            due.is("item", x.item(lane, lane, 1, above >> 1), 1);
            due.is("its highest bit", x.weather(lane, lane, 1, 1, -1), 0);
            due.is("index", x.item(lane, lane, 2, 0), INDEX);
            due.is("index", x.item(lane, lane, -1, 0), INDEX);
            due.is("index", x.item(lane, lane, HIGH, 0), INDEX);
            due.is("cast ahead of index", x.item(lane, (lane + 1) % 4, 2, 0), CAST);
        }
        due.is("item bad", x.item(-1, 0, 0, 0), BAD);
        due.is("item bad", x.item(4, 0, 0, 0), BAD);
        due.is("item bad", x.item(0, -1, 0, 0), BAD);
        due.is("item bad", x.item(0, 4, 9, 0), BAD);
        x.drop(0);
        due.is("null ahead of index", x.item(0, 0, 9, 0), NULL);
    }

    private static void copy() {
        SummerWall x = new SummerWall();
        x.sheet(0, 2, 6);
        x.sheet(1, 2, 3);
        x.sheet(2, 1, 6);
        for (int k = 0; k < 6; k++) {
            x.item(0, 2, k, k + 1);
        }
        int[][] bad = {{-1, 0, 0, 0, 1}, {4, 0, 0, 0, 1}, {0, 0, -1, 0, 1}, {0, 0, 4, 0, 1}};
        for (int[] b : bad) {
            due.is("copy bad", x.copy(b[0], b[1], b[2], b[3], b[4]), BAD);
        }
        due.is("null from", x.copy(3, 0, 0, 0, 1), NULL);
        due.is("null to", x.copy(0, -1, 3, 0, 1), NULL);
        due.is("null of one", x.copy(3, 0, 3, 0, 0), NULL);
        due.is("cast", x.copy(0, -1, 2, 0, 99), CAST);
        int[][] index = {{-1, 0, 1}, {0, -1, 1}, {0, 0, -1}, {0, 0, 4}, {5, 0, 2}, {0, 2, 2}, {7, 0, 0}, {0, 4, 0}, {HIGH, 0, 1}, {0, HIGH, HIGH}, {0, 0, LOW}, {LOW, 0, LOW}};
        for (int[] b : index) {
            due.is("copy index", x.copy(0, b[0], 1, b[1], b[2]), INDEX);
        }
        due.is("none at the end", x.copy(0, 6, 1, 3, 0), 0);
        due.is("up, over itself", x.copy(0, 0, 0, 1, 5), 5);
        items(x, 0, 1, 1, 2, 3, 4, 5);
        due.is("down, over itself", x.copy(0, 2, 0, 0, 4), 4);
        items(x, 0, 2, 3, 4, 5, 4, 5);
        due.is("to another", x.copy(0, 1, 1, 0, 3), 3);
        items(x, 1, 3, 4, 5);
        items(x, 0, 2, 3, 4, 5, 4, 5);
        x.item(1, 2, 0, 9);
        items(x, 0, 2, 3, 4, 5, 4, 5);
    }

    private static void items(SummerWall x, int sheet, int... want) {
        told(x, "200,40;p10");
        for (int k = 0; k < want.length; k++) {
            told(x, "200,40;p10");
            for (int l = 0; l < want[k]; l++) {
                x.day(0);
            }
            due.is("item " + k, x.weather(sheet, 2, k, 1, 0), 6);
        }
    }
}
