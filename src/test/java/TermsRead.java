import java.io.IOException;
import java.nio.file.Files;
import java.nio.file.Path;

/** The document's Terms, read by DocumentTest. */
final class TermsRead extends Edges {
    private final Reading doc;
    private final Due due;

    TermsRead(Reading doc, Due due) {
        this.doc = doc;
        this.due = due;
    }

    void read() throws IOException {
        doc.passes("## Terms");
        answersBelowNought();
        whatTheMachineFinds();
        refusedSetsDivided();
        doc.passes("==== 1");
        wall();
        frostAndThaw();
        doc.passes("```text");
        builders();
        kinds();
        oathsAndHindrances();
        whatIsUsed();
        aDay();
        doc.passes("``` ==== 2");
        odds();
        doc.passes("```text");
        sureAndPace();
        plan();
        when();
        soonestAndMean();
        doc.passes("``` ==== 3");
        weather();
        doc.passes("```text");
        undone();
        drift();
        bargain();
        bargainInPlace();
        faults();
        doc.passes("```");
        groups();
    }

    private void answersBelowNought() {
        doc.asks("Answers below 0, of several the first that a call names:");
        SummerWall x = of("9,1;p90;2,3");
        x.use(0);
        x.day(FAIR);
        due.is("BAD, FULL", x.day(3), BAD);
        due.is("BAD, FULL", x.use(2), BAD);
        due.is("NOT, FULL", x.use(0), NOT);
        due.is("FULL", x.use(1), FULL);
        due.is("BAD, NOT", x.wall(0, 0), BAD);
        due.is("NOT", x.wall(0, 6), NOT);
        doc.asks("BAD -1 (a number is not as told, there is no such thing),");
        due.is("BAD", SummerWall.BAD, -1);
        due.is("not as told", x.wall(0, 201), -1);
        due.is("no such builder", x.of(1, 0), -1);
        due.is("no such thing to count", x.count(13), -1);
        doc.asks("NOT -2 (as told),");
        due.is("NOT", SummerWall.NOT, -2);
        due.is("used already", x.use(0), -2);
        doc.asks("FULL -3,");
        due.is("FULL", SummerWall.FULL, -3);
        due.is("it is summer", x.day(FAIR), -3);
        doc.asks("NONE -4 (as told),");
        due.is("NONE", SummerWall.NONE, -4);
        due.is("no image", x.restore(), -4);
        doc.asks("CAST -12 (of SHEETS another LANE);");
        due.is("CAST", SummerWall.CAST, -12);
        x.sheet(0, 1, 2);
        due.is("shorts as bytes", x.item(0, 0, 0, 0), -12);
    }

    private void whatTheMachineFinds() {
        doc.asks("what the machine finds: NULL -11, INDEX -13, SIZE -14");
        due.is("NULL", SummerWall.NULL, -11);
        due.is("INDEX", SummerWall.INDEX, -13);
        due.is("SIZE", SummerWall.SIZE, -14);
        SummerWall x = new SummerWall();
        due.is("a sheet that is missing", x.drop(0), -11);
        due.is("fewer than none", x.sheet(0, 1, -1), -14);
        x.sheet(0, 1, 2);
        due.is("the third of two", x.item(0, 1, 2, 0), -13);
        doc.asks("(NULL, CAST, INDEX, SIZE in this order).");
        x.sheet(1, 2, 2);
        due.is("NULL, CAST, INDEX", x.copy(0, 9, 2, 9, 9), NULL);
        due.is("CAST, INDEX", x.copy(0, 9, 1, 9, 9), CAST);
        due.is("INDEX", x.copy(0, 9, 0, 0, 1), INDEX);
        due.is("a negative count is an INDEX", x.copy(0, 0, 0, 0, -1), INDEX);
    }

    private void refusedSetsDivided() {
        doc.asks("What is refused changes nothing, but as told.");
        Doing rich = x -> {
            tell(x, "40,8;p30,g11;3a,2,4b");
            x.image();
            x.use(0);
            x.drift(2);
            x.use(1);
            type(x, "7,5");
            x.sheet(0, 0, 3);
            x.film(FAIR, 3, 0, 0, 0);
        };
        String before = seen(rich);
        Asking[] refused = {x -> x.use(1), x -> x.day(3), x -> x.wall(0, 1), x -> x.sheet(0, 0, -1), x -> x.film(FAIR, 3, 0, 0, 1), x -> x.copy(0, 0, 0, 2, 2),
            x -> x.builder(0, 0, 0), x -> x.hindrance(1, 4), x -> x.seed(-1), x -> x.drift(0), x -> x.type(200), x -> x.oath(0, 2)};
        for (int k = 0; k < refused.length; k++) {
            Asking call = refused[k];
            due.that("refused " + k, call.on(behind(rich)) < 0);
            due.same("behind what is refused, " + k, seen(x -> { rich.on(x); call.on(x); }), before);
        }
        due.is("as told: a fault", behind(rich).bargain(), -23);
        due.is("as told: the tape is empty then", behindFault(rich).type('7'), 1);
        doc.asks("Sets are bits.");
        SummerWall x = behind(rich);
        due.is("used: 0 and 1", x.count(8), 1 + 2);
        x.use(2);
        due.is("used: 0, 1 and 2", x.count(8), 1 + 2 + 4);
        due.is("broken: 0 and 1", x.count(10), 1 + 2);
        doc.asks("What is divided is cut.");
        due.is("half of 9", of("9,9;p90").day(FROST), 4);
        due.is("tenths of 9", allLaid(9).of(1, 3), 1);
        due.is("tenths of 19", allLaid(19).of(1, 3), 2);
        // 0.7, 0.91 .. 0.999271; then 999781.3, of which the rest is cut.
        due.is("parts of a million", of("1,7;p10").odds(), 999781);
    }

    private static SummerWall behindFault(Doing rich) {
        SummerWall x = behind(rich);
        x.bargain();
        return x;
    }

    private void wall() {
        doc.asks("A WALL has STONES (1 .. 200; 60 at first)");
        due.is("stones at first", new SummerWall().count(2), 60);
        span(due, "stones", 1, 200, v -> new SummerWall().wall(0, v));
        doc.asks("to be LAID (0 .. STONES; 0 at first)");
        due.is("laid at first", new SummerWall().count(7), 0);
        SummerWall x = of("5,9;p30");
        due.is("three", x.day(FAIR), 3);
        due.is("no more than there are", x.day(FAIR), 2);
        due.is("no more than there are", x.day(FAIR), 0);
        due.is("laid", x.count(7), 5);
        doc.asks("in DAYS (1 .. 40; 20 at first) till SUMMER;");
        due.is("days at first", new SummerWall().count(3), 20);
        span(due, "days", 1, 40, v -> new SummerWall().wall(1, v));
        SummerWall first = new SummerWall();
        for (int k = 0; k < 20; k++) {
            due.is("a winter's day", first.day(FAIR), 0);
        }
        due.is("summer", first.day(FAIR), FULL);
        doc.asks("it is DAY 0 at first.");
        due.is("day at first", new SummerWall().count(6), 0);
    }

    private void frostAndThaw() {
        doc.asks("FROST is 0 .. 10, THAW 0 .. 10 (2 and 1 at first;");
        due.is("frost at first", new SummerWall().count(4), 2);
        due.is("thaw at first", new SummerWall().count(5), 1);
        span(due, "frost", 0, 10, v -> new SummerWall().wall(2, v));
        span(due, "thaw", 0, 10, v -> new SummerWall().wall(3, v));
        doc.asks("no more than 10 together):");
        SummerWall x = new SummerWall();
        due.is("9 and 1", x.wall(2, 9), 2);
        due.is("10 and 1", x.wall(2, 10), NOT);
        due.is("9 and 2", x.wall(3, 2), NOT);
        due.is("they stay", x.count(4) * 100 + x.count(5), 901);
        doc.asks("of 10 DAYS so many are so, the others FAIR.");
        // 9 are laid on a fair day, 8 in thaw, 4 in frost.
        SummerWall y = of("9,1;p90", 3, 2);
        due.is("fair", y.odds(), 500000);
        y.wall(0, 8);
        due.is("fair or thaw", y.odds(), 700000);
        y.wall(0, 4);
        due.is("any", y.odds(), MILLION);
    }

    private void builders() {
        doc.asks("BUILDERS 0 .. 3, as they come,");
        SummerWall x = new SummerWall();
        for (int k = 0; k < 4; k++) {
            due.is("no such one yet", x.of(k, 0), BAD);
            due.is("the next", x.builder(k, 9 - k, k), k);
        }
        for (int k = 0; k < 4; k++) {
            due.is("pace of " + k, x.of(k, 1), 9 - k);
        }
        due.is("a fifth", x.builder(4, 1, 0), FULL);
        due.is("number 4", x.of(4, 0), BAD);
        doc.asks("are of a KIND, of PACE (1 .. 9), with a HORSE (0 .. 9).");
        span(due, "kind", 0, 4, v -> new SummerWall().builder(v, 1, 0));
        span(due, "pace", 1, 9, v -> new SummerWall().builder(1, v, 0));
        span(due, "horse", 0, 9, v -> new SummerWall().builder(3, 1, v));
        due.is("kind", x.of(2, 0), 2);
        due.is("pace", x.of(2, 1), 7);
        due.is("horse", x.of(2, 2), 2);
        doc.asks("What one HAULS in a DAY, of it LAYS on a FAIR DAY (0), in FROST (1), in THAW (2), by KIND:");
        int[][] lays = {{7, 3, 6}, {12, 6, 11}, {7, 7, 6}, {24, 12, 21}, {7, 3, 6}};
        for (int kind = 0; kind < 5; kind++) {
            for (int w = 0; w < 3; w++) {
                SummerWall y = of("60,9;" + "phbgw".charAt(kind) + "75");
                due.is("kind " + kind + " hauls", y.of(0, 3), lays[kind][0]);
                due.is("kind " + kind + " would lay", y.of(0, 4 + w), lays[kind][w]);
                due.is("kind " + kind + " lays", y.day(w), lays[kind][w]);
            }
        }
    }

    private void kinds() {
        doc.asks("0 PLAIN: HAULS PACE;");
        hauls("p19", 1);
        hauls("p90", 9);
        doc.asks("LAYS all; half; 1 less (0 at least).");
        lays("p10", 1, 0, 0);
        lays("p20", 2, 1, 1);
        lays("p50", 5, 2, 4);
        doc.asks("Below it 1 HORSED: HAULS HORSE more.");
        hauls("h10", 1);
        hauls("h19", 10);
        lays("h14", 5, 2, 4);
        lays("h10", 1, 0, 0);
        doc.asks("2 BLIND (below PLAIN): LAYS in FROST as on a FAIR DAY.");
        hauls("b59", 5);
        lays("b59", 5, 5, 4);
        lays("b10", 1, 1, 0);
        doc.asks("3 GIANT (below HORSED): HAULS twice as much;");
        hauls("g10", 2);
        hauls("g14", 10);
        hauls("g99", 36);
        doc.asks("in THAW 2 less still (0 at least).");
        lays("g10", 2, 1, 0);
        lays("g11", 4, 2, 1);
        lays("g12", 6, 3, 3);
        doc.asks("4 PAID (below PLAIN): HAULS 1 more for each 10 LAID.");
        hauls("w19", 1);
        int[][] want = {{9, 0}, {10, 1}, {29, 2}, {30, 3}, {200, 20}};
        for (int[] w : want) {
            SummerWall x = allLaid(w[0]);
            due.is("hauls by " + w[0], x.of(1, 3), 1 + w[1]);
            due.is("lays by " + w[0], x.of(1, 4), 1 + w[1]);
            due.is("lays in frost by " + w[0], x.of(1, 5), (1 + w[1]) / 2);
            due.is("lays in thaw by " + w[0], x.of(1, 6), w[1]);
        }
    }

    private void hauls(String builder, int want) {
        due.is(builder + " hauls", of("60,9;" + builder).of(0, 3), want);
    }

    private void lays(String builder, int fair, int frost, int thaw) {
        int[] want = {fair, frost, thaw};
        for (int w = 0; w < 3; w++) {
            due.is(builder + " in weather " + w, of("60,9;" + builder).of(0, 4 + w), want[w]);
        }
    }

    private void oathsAndHindrances() {
        doc.asks("OATHS 0 .. 3 are SWORN or not (all are at first).");
        SummerWall x = new SummerWall();
        due.is("all", x.count(11), 15);
        for (int k = 0; k < 4; k++) {
            due.is("oath " + k, x.oath(k, 0), 1);
            due.is("not any more", x.oath(k, 0), 0);
        }
        due.is("a fifth", x.oath(4, 0), BAD);
        doc.asks("HINDRANCES 0 .. 5, as they come,");
        SummerWall y = new SummerWall();
        for (int k = 0; k < 6; k++) {
            due.is("no such one yet", y.best(k, 0), BAD);
            due.is("the next", y.hindrance(k + 1, NONE), k);
        }
        due.is("a seventh", y.hindrance(1, NONE), FULL);
        due.is("number 6", y.use(6), BAD);
        doc.asks("cost 1 .. 9 STONES,");
        span(due, "cost", 1, 9, v -> new SummerWall().hindrance(v, 0));
        due.is("of 9 stones", used("60,9;p90;1").day(FAIR), 8);
        due.is("of 9 stones", used("60,9;p90;8").day(FAIR), 1);
        doc.asks("break an OATH or none (NONE);");
        due.is("none", used("60,9;p90;1").count(10), 0);
        for (int k = 0; k < 4; k++) {
            due.is("an oath", used("60,9;p90;1" + "abcd".charAt(k)).count(10), 1 << k);
            SummerWall z = new SummerWall();
            due.is("an oath", z.hindrance(1, k), 0);
            z.use(0);
            due.is("an oath", z.count(10), 1 << k);
        }
        due.is("no such oath", new SummerWall().hindrance(1, 4), BAD);
        due.is("no such oath", new SummerWall().hindrance(1, -1), BAD);
        doc.asks("each can be USED once.");
        due.is("once", y.use(5), 6);
        due.is("twice", y.use(5), NOT);
        y.day(FAIR);
        due.is("later", y.use(5), NOT);
    }

    private static SummerWall used(String text) {
        SummerWall x = of(text);
        x.use(0);
        return x;
    }

    private void whatIsUsed() {
        doc.asks("What is USED on a DAY costs so much of what all LAY on it together (0 is left at least);");
        SummerWall x = of("60,9;p20,p30;4,9,1");
        x.use(0);
        due.is("4 of 2 and 3", x.day(FAIR), 1);
        due.is("none on the next day", x.day(FAIR), 5);
        x.use(1);
        x.use(2);
        due.is("10 of 5", x.day(FAIR), 0);
        due.is("nothing is torn down", x.count(7), 6);
        doc.asks("an OATH that is SWORN then and broken by it is BROKEN for good.");
        SummerWall y = of("60,9;p20;1a,1b,1c");
        y.oath(1, 0);
        y.use(0);
        y.use(1);
        due.is("the second was not sworn then", y.count(10), 1);
        y.oath(1, 1);
        y.oath(0, 0);
        y.day(FAIR);
        due.is("for good, and no other since", y.count(10), 1);
        y.use(2);
        due.is("one more", y.count(10), 5);
    }

    private void aDay() {
        doc.asks("A DAY: what all LAY (by LAID ahead of it),");
        SummerWall x = of("60,9;p90,w10");
        due.is("by none", x.day(FAIR), 10);
        due.is("by 10", x.day(FAIR), 11);
        due.is("by 21, in frost", x.day(FROST), 4 + 1);
        due.is("by 26, in thaw", x.day(THAW), 8 + 2);
        doc.asks("less what was USED on it,");
        SummerWall y = of("60,9;p90;2,3");
        y.use(0);
        y.use(1);
        due.is("5 less", y.day(THAW), 3);
        doc.asks("is LAID (STONES at most);");
        SummerWall z = of("12,9;p90;2");
        due.is("nine", z.day(FAIR), 9);
        z.use(0);
        due.is("three of seven", z.day(FAIR), 3);
        due.is("all", z.count(7), 12);
        doc.asks("it is the next DAY.");
        due.is("day", z.count(6), 2);
        due.is("what was used is no longer of today", z.count(9), 0);
    }

    private void odds() {
        doc.asks("FORETOLD (nothing is changed).");
        Doing rich = x -> {
            tell(x, "40,8;p30,g11,w10;3a,2,4b");
            x.drift(1);
            x.use(1);
        };
        String before = seen(rich);
        Asking[] calls = {x -> x.odds(), x -> x.oddsAt(0, 0), x -> x.sure(MILLION), x -> x.pace(0, MILLION), x -> x.plan(0, 1), x -> x.best(0, 0), x -> x.best(2, 1),
            x -> x.soonest(FROST), x -> x.mean(5, 0)};
        for (int k = 0; k < calls.length; k++) {
            Asking call = calls[k];
            due.that("foretold " + k, call.on(behind(rich)) != BAD);
            due.same("behind what is foretold, " + k, seen(x -> { rich.on(x); call.on(x); }), before);
        }
        doc.asks("ODDS from a DAY and what is LAID: parts of a MILLION that all STONES are LAID by SUMMER:");
        // A stone a fair day: both days fair, or one of them.
        SummerWall x = of("2,2;p10");
        due.is("two in two days", x.odds(), 490000);
        due.is("one in two days", x.oddsAt(0, 1), 910000);
        due.is("one in a day", x.oddsAt(1, 1), 700000);
        due.is("two in a day", x.oddsAt(1, 0), 0);
        doc.asks("a MILLION, if they are;");
        due.is("on any day", x.oddsAt(0, 2) + x.oddsAt(1, 2), 2 * MILLION);
        due.is("in summer", x.oddsAt(2, 2), MILLION);
        doc.asks("else 0, if it is SUMMER;");
        due.is("one too few", x.oddsAt(2, 1), 0);
        days(x, 2, FROST);
        due.is("now", x.odds(), 0);
        doc.asks("else (ODDS behind a FAIR DAY times (10 less FROST, THAW), behind one of FROST times FROST, of THAW times THAW, added) / 10.");
        // Behind the first day 9, 4 or 8 are laid, so that 8, 13 or 9 are missing on the second.
        SummerWall y = of("17,2;p90", 3, 1);
        due.is("behind a fair day", y.oddsAt(1, 9), 700000);
        due.is("behind frost", y.oddsAt(1, 4), 0);
        due.is("behind thaw", y.oddsAt(1, 8), 600000);
        due.is("added", y.odds(), (700000 * 6 + 0 * 3 + 600000 * 1) / 10);
        doc.asks("What was USED today counts today.");
        SummerWall z = used("17,3;p90;9");
        due.is("today nothing is laid", z.odds(), z.oddsAt(1, 0));
        due.that("it would be less sure", z.odds() < z.oddsAt(0, 0));
        z.day(FAIR);
        due.is("tomorrow it counts no more", z.odds(), z.oddsAt(1, 0));
    }

    private void sureAndPace() {
        doc.asks("SURE of s (0 .. 1000000):");
        span(due, "s", 0, MILLION, v -> of("2,2;p10").sure(v));
        doc.asks("the first DAY from now on, all DAYS till then being FAIR, on which ODDS are s or more; none.");
        SummerWall x = of("2,3;p10");
        int[][] days = {{784000, 0}, {784001, 1}, {910000, 1}, {910001, 2}, {MILLION, 2}};
        for (int[] d : days) {
            due.is("of " + d[0], x.sure(d[0]), d[1]);
        }
        x.day(FROST);
        due.is("from now on", x.sure(490000), 1);
        due.is("from now on", x.sure(490001), 2);
        x.day(FROST);
        due.is("one day for two", x.sure(1), NONE);
        doc.asks("PACE for s: the least (0 .. 20) that PACE of a BUILDER would have to be more");
        due.is("none", fairOnly("5,1;p50").pace(0, MILLION), 0);
        due.is("20", fairOnly("25,1;p50").pace(0, MILLION), 20);
        due.is("21 are too many", fairOnly("26,1;p50").pace(0, MILLION), NONE);
        due.is("of the second", fairOnly("20,1;p50,g10").pace(1, MILLION), 7);
        doc.asks("(above 9, too),");
        due.is("10", fairOnly("10,1;p90").pace(0, MILLION), 1);
        due.is("29", fairOnly("29,1;p90").pace(0, MILLION), 20);
        doc.asks("so that ODDS now are s or more; none.");
        SummerWall y = of("9,1;p90");
        due.is("as they are", y.pace(0, 700000), 0);
        due.is("in thaw, too", y.pace(0, 800000), 1);
        due.is("in frost, too", y.pace(0, 800001), 9);
        y.day(FAIR);
        y.wall(0, 10);
        due.is("in summer", y.pace(0, 1), NONE);
    }

    private void plan() {
        doc.asks("PLAN for s: the fewest HINDRANCES not USED yet,");
        SummerWall x = fairOnly("5,2;p90;5,4,1,3,2");
        x.wall(1, 1);
        due.is("the first alone", x.plan(0, 1), 1);
        x.wall(1, 2);
        x.use(0);
        x.day(FAIR);
        x.wall(0, 9);
        due.is("it is used", x.plan(0, 1), 2 + 4);
        doc.asks("all USED today besides,");
        x.use(2);
        due.is("one is enough besides", x.plan(0, 0), 1);
        due.is("one is enough besides", x.plan(0, 1), 2);
        doc.asks("none that breaks an OATH that is SWORN,");
        SummerWall y = fairOnly("5,1;p90;9a,9b,9c,9d,5");
        due.is("what breaks none", y.plan(0, 1), 16);
        y.oath(3, 0);
        due.is("what breaks none that is sworn", y.plan(0, 1), 8);
        doc.asks("by which ODDS are s or less:");
        SummerWall z = of("5,1;p90;1,4,5");
        due.is("odds", z.odds(), 800000);
        due.is("as they are", z.plan(800000, 1), 0);
        due.is("a little less: no longer in thaw", z.plan(799999, 1), 2);
        due.is("much less", z.plan(699999, 1), 4);
        doc.asks("how many; the least set; none.");
        due.is("how many", z.plan(0, 0), 1);
        due.is("the least of two that would do", fairOnly("5,1;p90;1,7,5").plan(0, 1), 2);
        due.is("of two the least pair", fairOnly("5,1;p90;3,2,3,2").plan(0, 1), 3);
        due.is("none", fairOnly("5,1;p90;1,1,1").plan(0, 0), NONE);
        due.is("none", fairOnly("5,1;p90;1,1,1").plan(0, 1), NONE);
    }

    private void when() {
        doc.asks("WHEN of a HINDRANCE that is not USED: the DAY from today on (ahead of SUMMER) on which,");
        SummerWall x = fairOnly("12,4;p40;9,4");
        x.day(FAIR);
        x.wall(0, 16);
        due.is("today, if no day is better", x.best(1, 0), 1);
        x.use(0);
        due.is("today there is nothing left to cost", x.best(1, 0), 1);
        x.wall(0, 12);
        due.is("tomorrow", x.best(1, 0), 2);
        days(x, 2, FAIR);
        due.is("the last day", x.best(1, 0), 3);
        due.is("not if it is used", x.best(0, 0), NOT);
        doc.asks("USED alone (today besides what is),");
        SummerWall y = fairOnly("10,2;p70;2,3,9");
        y.use(0);
        due.is("2 and 3 of 14 leave nine", y.best(1, 1), 0);
        y.wall(0, 9);
        due.is("2 and 3 of 14 leave nine, which are enough", y.best(1, 1), MILLION);
        due.is("the third is not used", y.best(2, 1), 0);
        doc.asks("it makes ODDS now least, of like ones the first; how much;");
        SummerWall z = of("9,2;p90;9");
        due.is("either day alike: the first", z.best(0, 0), 0);
        due.is("how much: the other day is fair", z.best(0, 1), 700000);
        SummerWall paid = fairOnly("22,2;w90,p10;1");
        due.is("10 and 11 are laid, or 9 and 10, or 10 and 10", paid.best(0, 0), 0);
        paid.wall(0, 20);
        due.is("today it costs a stone of tomorrow's, too", paid.best(0, 0), 0);
        due.is("how much", paid.best(0, 1), 0);
        doc.asks("none: it is SUMMER.");
        days(paid, 2, FAIR);
        due.is("summer", paid.best(0, 0), NONE);
        due.is("summer", paid.best(0, 1), NONE);
    }

    private void soonestAndMean() {
        doc.asks("SOONEST: how many DAYS from now, all FAIR (0), of FROST (1), of THAW (2),");
        SummerWall x = of("36,40;p90");
        due.is("fair", x.soonest(FAIR), 4);
        due.is("frost", x.soonest(FROST), 9);
        due.is("thaw", x.soonest(THAW), 5);
        x.day(FAIR);
        due.is("from now", x.soonest(FAIR), 3);
        doc.asks("till all STONES are LAID (99 at most,");
        due.is("99", of("99,40;p10").soonest(FAIR), 99);
        due.is("100", of("100,40;p10").soonest(FAIR), NONE);
        doc.asks("whether it is SUMMER or not); none.");
        SummerWall y = of("10,1;p30");
        y.day(FAIR);
        due.is("in summer", y.soonest(FAIR), 3);
        due.is("in frost", y.soonest(FROST), 7);
        due.is("never", of("1,1;p10").soonest(FROST), NONE);
        doc.asks("MEAN of what is LAID behind n DAYS (0 .. 6; no more than there are till SUMMER),");
        SummerWall z = of("60,7;p40;1");
        z.use(0);
        span(due, "n", 0, 6, v -> of("60,7;p40").mean(v, 0));
        // 3, 1, 2 today and 4, 2, 3 on other days: 2.5 and 3.5 in the mean.
        int[][] want = {{0, 1}, {5, 2}, {6, 1}, {19, 2}};
        for (int n = 0; n < want.length; n++) {
            due.is("above, behind " + n, z.mean(n, 0), want[n][0]);
            due.is("below, behind " + n, z.mean(n, 1), want[n][1]);
        }
        days(z, 5, FAIR);
        due.that("two days are left", z.mean(2, 0) > 0);
        due.is("three are not", z.mean(3, 0), BAD);
        doc.asks("as a fraction in lowest terms.");
        SummerWall half = of("60,7;p20", 5, 5);
        due.is("1 in either", half.mean(3, 0) * 10 + half.mean(3, 1), 31);
        SummerWall fine = of("1,7;p10", 3, 0);
        due.is("91 of 100", fine.mean(2, 0), 91);
        due.is("91 of 100", fine.mean(2, 1), 100);
        due.is("0 of 1", new SummerWall().mean(6, 1), 1);
    }

    private void weather() {
        doc.asks("WEATHER: a row tells what is LAID behind each of n DAYS (1 .. 8) from now on (what was USED today counts):");
        SummerWall x = used("60,20;p50;1");
        x.sheet(0, 0, 8);
        span(due, "n", 1, 8, v -> x.weather(0, 0, 0, v, -1));
        // Today 4, 1 or 3; then 5, 2 or 4.
        int[] row = {3, 8, 10};
        for (int k = 0; k < 3; k++) {
            x.item(0, 0, k, row[k]);
        }
        doc.asks("in how many rows of n WEATHERS it would be so;");
        due.is("thaw, fair, frost alone", x.weather(0, 0, 0, 3, -1), 1);
        due.is("no such row", x.weather(0, 0, 0, 4, -1), 0);
        SummerWall nobody = new SummerWall();
        nobody.sheet(0, 0, 8);
        due.is("any: 3 times 3 times 3", nobody.weather(0, 0, 0, 3, -1), 27);
        SummerWall few = of("3,20;b20");
        few.sheet(0, 0, 3);
        few.film(FAIR, 3, 0, 0, 0);
        due.is("2, then 3 by any, then any", few.weather(0, 0, 0, 3, -1), 2 * 3 * 3);
        doc.asks("on the d-th of them (0 on) which WEATHERS (a set of 0, 1, 2) in such a row.");
        due.is("thaw", x.weather(0, 0, 0, 3, 0), 4);
        due.is("fair", x.weather(0, 0, 0, 3, 1), 1);
        due.is("frost", x.weather(0, 0, 0, 3, 2), 2);
        due.is("fair or frost", few.weather(0, 0, 0, 3, 0), 3);
        due.is("any", few.weather(0, 0, 0, 3, 1), 7);
        due.is("none, if there is no such row", x.weather(0, 0, 0, 4, 0), 0);
    }

    private void undone() {
        doc.asks("UNDONE: the latest DAY, HINDRANCE USED is as it had not been");
        SummerWall x = of("60,20;p50;3a,2");
        x.use(0);
        x.day(FAIR);
        x.use(1);
        due.is("the use", x.undo(), 2);
        due.is("it is not used", x.count(8), 1);
        due.is("the day", x.undo(), 1);
        due.is("nothing is laid", x.count(7), 0);
        due.is("the first use", x.undo(), 0);
        due.is("nothing is used, broken", x.count(8) + x.count(10), 0);
        due.is("no other", x.undo(), NONE);
        doc.asks("(8 are known, older ones lost):");
        days(x, 9, FAIR);
        due.is("eight", x.count(12), 8);
        for (int k = 7; k >= 0; k--) {
            due.is("undone", x.undo(), k);
            due.is("day", x.count(6), k + 1);
            due.is("laid", x.count(7), 5 * (k + 1));
        }
        due.is("the first of nine is lost", x.undo(), NONE);
        doc.asks("DAY, LAID, what is USED, was USED today, BROKEN, THE DRAW are as ahead of it, whatever was told since;");
        SummerWall y = of("60,20;p50;3a,2b,4");
        y.oath(1, 0);
        y.seed(5);
        y.use(2);
        y.drift(1);
        int laid = y.count(7), draw = y.seed(6);
        y.seed(draw);
        y.use(0);
        y.use(1);
        y.drift(1);
        y.seed(7);
        y.oath(0, 0);
        y.wall(0, 50);
        y.undo();
        counts(due, "the day", y, 1, 3, 50, 20, 2, 1, 1, laid, 7, 5, 1, 12, 4);
        due.is("the draw", y.seed(8), draw);
        y.undo();
        counts(due, "the use", y, 1, 3, 50, 20, 2, 1, 1, laid, 5, 3, 1, 12, 3);
        due.is("the draw", y.seed(8), draw);
        y.undo();
        y.undo();
        counts(due, "the first day", y, 1, 3, 50, 20, 2, 1, 0, 0, 4, 4, 0, 12, 1);
        y.undo();
        counts(due, "all", y, 1, 3, 50, 20, 2, 1, 0, 0, 0, 0, 0, 12, 0);
        due.is("the draw", y.seed(8), 5);
        doc.asks("a BARGAIN, a new BUILDER, HINDRANCE leave nothing to be UNDONE.");
        Asking[] calls = {z -> tell(z, "7,5;p10"), z -> z.builder(0, 1, 0), z -> z.hindrance(1, NONE)};
        for (Asking call : calls) {
            SummerWall z = of("60,20;p50;3a,2");
            z.day(FAIR);
            due.that("it stands", call.on(z) >= 0);
            due.is("nothing", z.count(12), 0);
            due.is("nothing", z.undo(), NONE);
        }
    }

    private void drift() {
        doc.asks("DRIFT by a seed: THE DRAW is a number of 31 bits (1 at first);");
        SummerWall x = of("200,40;p90");
        due.is("at first", x.seed(HIGH), 1);
        due.is("the highest", x.seed(1), HIGH);
        due.is("of 32 bits", x.seed(LOW), BAD);
        doc.asks("ahead of each DAY of a DRIFT it becomes the lowest 31 bits of itself times 1103515245 and 12345 more:");
        due.is("of 1: 1103527590, whose lot is 16838, a fair day", x.drift(1), 9);
        due.is("once", x.seed(1103527590), 1103527590);
        due.is("5758, a fair day", x.drift(1), 9);
        due.is("twice", x.seed(377401575), 377401575);
        x.seed(HIGH);
        x.drift(1);
        due.is("of 2^31 less 1: 2^31 less 1103515245, and 12345 more", x.seed(1), (int) ((1L << 31) - 1103515245L + 12345L));
        x.drift(2);
        due.is("of two days", x.seed(1), 377401575);
        doc.asks("if it by 65536, left over by 10, is less than FROST, it is a DAY of FROST;");
        // The lots of the draws from 1 on: 8 8 3 5 1 7 0 9 2 6.
        int[] lots = {8, 8, 3, 5, 1, 7, 0, 9, 2, 6};
        for (int frost = 0; frost <= 10; frost++) {
            SummerWall y = of("200,40;p90", frost, 0);
            for (int lot : lots) {
                due.is("lot " + lot + " by frost " + frost, y.drift(1), lot < frost ? 4 : 9);
            }
        }
        doc.asks("else, if less than FROST and THAW together, of THAW; else FAIR.");
        for (int thaw = 0; thaw <= 7; thaw++) {
            SummerWall y = of("200,40;p90", 3, thaw);
            for (int lot : lots) {
                due.is("lot " + lot + " by thaw " + thaw, y.drift(1), lot < 3 ? 4 : lot < 3 + thaw ? 8 : 9);
            }
        }
        // One plain, one blind, both of pace 2: 4 are laid on a fair day, 3 in frost, 2 in thaw.
        SummerWall z = of("200,40;p20,b20", 4, 3);
        long draw = 1;
        for (int k = 0; k < 40; k++) {
            draw = (draw * 1103515245L + 12345L) % (1L << 31);
            long lot = draw / 65536 % 10;
            due.is("day " + k + ", lot " + lot, z.drift(1), lot < 4 ? 3 : lot < 7 ? 2 : 4);
        }
    }

    private void bargain() {
        doc.asks("A BARGAIN is a TEXT: a number 1 .. 200 (STONES), then , and a number 1 .. 40 (DAYS);");
        text("1,1;p10", 1);
        text("200,40;p10", 1);
        due.is("stones", of("123,34;p10").count(2), 123);
        due.is("days", of("123,34;p10").count(3), 34);
        text("0,40;p10", -20);
        text("201,40;p10", -20);
        text("200,0;p10", -24);
        text("200,41;p10", -24);
        text("200.40;p10", -23);
        doc.asks("then ; and 1 to 4 BUILDERS with , between:");
        text("7,5;", -24);
        text("7,5;p10,p10", 2);
        text("7,5;p10,p10,p10,p10", 4);
        text("7,5;p10,p10,p10,p10,p10", -39);
        text("7,5;p10 p10", -28);
        text("7,5,p10", -23);
        doc.asks("p h b g w (KINDS in this order), a digit 1 .. 9 (PACE), a digit 0 .. 9 (HORSE);");
        SummerWall x = of("7,5;h10,b29,g90,w99");
        int[][] want = {{1, 1, 0}, {2, 2, 9}, {3, 9, 0}, {4, 9, 9}};
        for (int b = 0; b < 4; b++) {
            for (int what = 0; what < 3; what++) {
                due.is("of " + b + ": " + what, x.of(b, what), want[b][what]);
            }
        }
        due.is("p", of("7,5;p34").of(0, 0), 0);
        text("7,5;p00", -25);
        text("7,5;p1x", -26);
        text("7,5;q10", -24);
        doc.asks("then perhaps ; and 1 to 6 HINDRANCES with , between:");
        due.is("none", of("7,5;p10").count(1), 0);
        due.is("one", of("7,5;p10;1").count(1), 1);
        due.is("six", of("7,5;p10;1,2,3,4,5,6").count(1), 6);
        text("7,5;p10;", -28);
        text("7,5;p10;1,2,3,4,5,6,7", -39);
        doc.asks("a digit 1 .. 9 (what it costs), perhaps a b c d (OATHS 0 .. 3):");
        SummerWall y = of("7,5;p10;9,1a,2b,3c,4d");
        int[] costs = {9, 10, 12, 15, 19}, broken = {0, 1, 3, 7, 15};
        for (int k = 0; k < 5; k++) {
            due.is("cost", y.use(k), costs[k]);
            due.is("broken", y.count(10), broken[k]);
        }
        text("7,5;p10;0", -28);
        text("7,5;p10;1e", -29);
    }

    private void text(String text, int want) {
        due.is("'" + text + "'", tell(new SummerWall(), text), want);
    }

    private void bargainInPlace() {
        doc.asks("in place of all BUILDERS, HINDRANCES, of STONES, DAYS;");
        SummerWall x = of("60,20;p10,h20,b30;1a,2b,3", 4, 3);
        x.oath(2, 0);
        x.use(0);
        x.drift(2);
        x.use(1);
        int draw = x.seed(0);
        x.seed(draw);
        due.is("one builder", tell(x, "7,5;g11;9,8"), 1);
        counts(due, "in place", x, 1, 2, 7, 5);
        due.is("a giant", x.of(0, 0), 3);
        due.is("nobody else", x.of(1, 0), BAD);
        doc.asks("DAY 0, nothing LAID, USED, BROKEN (FROST, THAW, what is SWORN, THE DRAW stay).");
        counts(due, "begun anew", x, 1, 2, 7, 5, 4, 3, 0, 0, 0, 0, 0, 11, 0);
        due.is("the draw", x.seed(1), draw);
        doc.asks("Numbers have 1 to 3 digits.");
        text("7,005;p10", 1);
        text("007,05;p10", 1);
        text("0100,5;p10", -23);
        text("7,0050;p10", -25);
    }

    private void faults() {
        doc.asks("FAULTS: -20 less the place of the first letter (behind blanks) that can't stand there,");
        text("x", -20);
        text("   x", -23);
        text("7;5", -21);
        text("7  ;5", -23);
        text("7,5;p10;1 , 2 z", -34);
        text("2000,5;p10", -23);
        doc.asks("or of the number's first digit, if it is not as told");
        text("  300,5;p10", -22);
        text("7, 41x", -23);
        text("9999", -20);
        doc.asks("(the end: how many there are);");
        text("", -20);
        text("  ", -22);
        text("7,5;p1", -26);
        text("7,5;p1   ", -29);
        text("7,5;p10,", -28);
        doc.asks("blanks count for nothing, but end a number.");
        text("  7 , 5 ; p 1 0 ; 1 a  ", 1);
        text("1 7,5;p10", -22);
        text("7,1 5;p10", -24);
    }

    private void groups() throws IOException {
        doc.asks("Ahead of the calls `builder`, `of`, `wall`, `hindrance`, `oath`, `type`, `bargain`, `count` the interface says: ---- 1 builders, hindrances.");
        group("---- 1 builders, hindrances", "builder", "of", "wall", "hindrance", "oath", "type", "bargain", "count");
        doc.asks("Ahead of the calls `day`, `use`, `drift`, `undo`, `seed` the interface says: ---- what is done.");
        group("---- what is done", "day", "use", "drift", "undo", "seed");
        doc.asks("Ahead of the calls `odds`, `oddsAt`, `sure`, `pace`, `plan`, `best`, `soonest`, `mean`, `image`, `restore` the interface says: ---- 2 foretold.");
        group("---- 2 foretold", "odds", "oddsAt", "sure", "pace", "plan", "best", "soonest", "mean", "image", "restore");
        doc.asks("Ahead of the calls `weather`, `film`, `sheet`, `drop`, `item`, `copy` the interface says: ---- 3 sheets 0 .. 3: nothing (at first),");
        group("---- 3 sheets", "weather", "film", "sheet", "drop", "item", "copy");
        SummerWall x = new SummerWall();
        for (int s = 0; s < 4; s++) {
            due.is("nothing", x.drop(s), NULL);
        }
        due.is("no such sheet", x.drop(4), BAD);
        doc.asks("or a row of a LANE: 0 bytes, 1 shorts, 2 ints, 3 longs, of 0 to 24 items.");
        long[] beyond = {1L << 8, 1L << 16, 1L << 32, 0};
        for (int lane = 0; lane < 4; lane++) {
            due.is("24", x.sheet(lane, lane, 24), 24);
            due.is("the last", x.item(lane, lane, 23, beyond[lane]), 1);
            due.same("a lane holds no bit more", items(behindSheet(lane, beyond[lane]), 0, lane), "[0]");
            due.same("a lane holds the bit below", items(behindSheet(lane, lane == 3 ? Long.MIN_VALUE : beyond[lane] / 2), 0, lane), "[?]");
            due.is("0", x.sheet(lane, lane, 0), 0);
        }
        due.is("25", x.sheet(0, 0, 25), BAD);
        due.is("no such lane", x.sheet(0, 4, 1), BAD);
    }

    /** That the class has these calls in this order behind what stands ahead of them. */
    private void group(String ahead, String... calls) throws IOException {
        String text = Files.readString(Path.of("src/main/java/SummerWall.java"));
        int at = text.indexOf("    // " + ahead + "\n");
        due.that(ahead, at >= 0);
        for (String call : calls) {
            int next = text.indexOf("    public ", at + 1);
            due.that(call + " is next", next > at && text.startsWith("    public int " + call + "(", next));
            at = next;
        }
    }

    private static SummerWall behindSheet(int lane, long v) {
        SummerWall x = new SummerWall();
        x.sheet(0, lane, 1);
        x.item(0, lane, 0, v);
        return x;
    }
}
