/** Sheets (promises 25 to 30): each sentence with an edge by itself. */
public final class SheetEdgesTest extends Edges {
    private static final Due due = new Due("SheetEdgesTest");

    public static void main(String[] args) {
        nothingAtFirst();
        sheetBounds();
        sizeBelowNought();
        newRow();
        dropped();
        itemBounds();
        itemIndex();
        lowestBits();
        anotherLane();
        weatherBounds();
        weatherWhichDay();
        weatherIndex();
        weatherTillSummer();
        weatherRows();
        weatherUsedToday();
        weatherNoSuchRow();
        filmBounds();
        filmIndex();
        filmBeyondSummer();
        filmStonesAtMost();
        filmUsedToday();
        filmLowestBits();
        copyBounds();
        copyIndex();
        copyOfNone();
        copyAsIfTakenAhead();
        copyToAnother();
        due.end();
    }

    private static void nothingAtFirst() {
        due.sentence("sheets 0 .. 3: nothing (at first)");
        SummerWall x = new SummerWall();
        for (int s = 0; s < 4; s++) {
            due.is("drop", x.drop(s), NULL);
            for (int lane = 0; lane < 4; lane++) {
                due.is("item", x.item(s, lane, 0, 0), NULL);
                due.is("weather", x.weather(s, lane, 0, 1, -1), NULL);
                due.is("film", x.film(FAIR, 1, s, lane, 0), NULL);
            }
            due.is("copy", x.copy(s, 0, s, 0, 0), NULL);
        }
    }

    private static void sheetBounds() {
        due.sentence("a row of a LANE: 0 bytes, 1 shorts, 2 ints, 3 longs, of 0 to 24 items");
        span(due, "sheet", 0, 3, v -> new SummerWall().sheet(v, 0, 1));
        span(due, "lane", 0, 3, v -> new SummerWall().sheet(0, v, 1));
        for (int n = 0; n <= 24; n++) {
            SummerWall x = new SummerWall();
            due.is("n " + n, x.sheet(3, 3, n), n);
            due.is("the last item of " + n, x.item(3, 3, n - 1, 1), n == 0 ? INDEX : 1);
            due.is("the item behind it of " + n, x.item(3, 3, n, 1), INDEX);
            due.is("how many", x.drop(3), n);
        }
        due.sentence("BAD: also n above 24");
        due.is("25", new SummerWall().sheet(0, 0, 25), BAD);
        due.is("26", new SummerWall().sheet(0, 0, 26), BAD);
        due.is("the most", new SummerWall().sheet(0, 0, HIGH), BAD);
    }

    private static void sizeBelowNought() {
        due.sentence("SIZE: n below 0");
        SummerWall x = new SummerWall();
        due.is("-1", x.sheet(0, 0, -1), SIZE);
        due.is("-24", x.sheet(0, 0, -24), SIZE);
        due.is("the least", x.sheet(0, 0, LOW), SIZE);
        due.is("nothing is there", x.drop(0), NULL);
        due.is("none is fine", x.sheet(0, 0, 0), 0);
        due.is("BAD is named first", x.sheet(4, 0, -1), BAD);
        due.is("BAD is named first", x.sheet(-1, 0, -1), BAD);
        due.is("BAD is named first", x.sheet(0, 4, -1), BAD);
        due.is("BAD is named first", x.sheet(0, -1, -1), BAD);
    }

    private static void newRow() {
        due.sentence("A SHEET holds a new row of a LANE: n.");
        SummerWall x = new SummerWall();
        x.sheet(1, 2, 3);
        for (int i = 0; i < 3; i++) {
            x.item(1, 2, i, 9);
        }
        x.sheet(1, 2, 3);
        due.same("its items are 0", items(x, 1, 2), "[000]");
        x.item(1, 2, 2, 9);
        x.sheet(1, 2, 2);
        x.sheet(1, 2, 4);
        due.same("nothing of an older one comes back", items(x, 1, 2), "[0000]");
        x.sheet(1, 0, 5);
        due.is("another lane", laneOf(x, 1), 0);
        due.is("how many", x.drop(1), 5);
        due.is("other sheets are not touched", x.drop(0), NULL);
        due.is("other sheets are not touched", x.drop(2), NULL);
    }

    private static void dropped() {
        due.sentence("A SHEET holds nothing: how many items it had. BAD; NULL.");
        span(due, "sheet", 0, 3, v -> new SummerWall().drop(v));
        SummerWall x = new SummerWall();
        for (int s = 0; s < 4; s++) {
            x.sheet(s, s, 8 * s);
        }
        for (int s = 0; s < 4; s++) {
            due.is("how many", x.drop(s), 8 * s);
            due.is("none any more", x.drop(s), NULL);
            due.is("none any more", x.item(s, s, 0, 0), NULL);
        }
        x.sheet(0, 0, 2);
        x.item(0, 0, 1, 9);
        x.drop(0);
        x.sheet(0, 0, 2);
        due.same("a new one", items(x, 0, 0), "[00]");
    }

    private static void itemBounds() {
        due.sentence("Item i of a SHEET, taken as a row of a LANE, becomes v ... BAD; NULL; CAST; INDEX.");
        Doing all = x -> {
            for (int s = 0; s < 4; s++) {
                x.sheet(s, s, 2);
            }
        };
        span(due, "sheet", 0, 3, v -> behind(all).item(v, v & 3, 0, 0));
        span(due, "lane", 0, 3, v -> behind(all).item(v & 3, v, 0, 0));
        SummerWall x = behind(all);
        due.is("BAD ahead of NULL", new SummerWall().item(0, 4, 0, 0), BAD);
        due.is("BAD ahead of INDEX", x.item(0, 4, 9, 0), BAD);
        due.is("CAST ahead of INDEX", x.item(0, 1, 9, 0), CAST);
        due.is("NULL ahead of INDEX", new SummerWall().item(0, 1, 9, 0), NULL);
    }

    private static void itemIndex() {
        due.sentence("BAD; NULL; CAST; INDEX.");
        for (int lane = 0; lane < 4; lane++) {
            for (int n : new int[] {0, 1, 2, 23, 24}) {
                SummerWall x = new SummerWall();
                x.sheet(2, lane, n);
                int[] outside = {-1, -2, LOW, n, n + 1, 24, 25, HIGH};
                for (int i : outside) {
                    due.is("item " + i + " of " + n, x.item(2, lane, i, 1), i >= 0 && i < n ? 1 : INDEX);
                }
                for (int i = 0; i < n; i++) {
                    due.is("item " + i + " of " + n, x.item(2, lane, i, 1), 1);
                }
            }
        }
        SummerWall x = new SummerWall();
        x.sheet(0, 1, 4);
        x.item(0, 1, 0, 7);
        x.item(0, 1, 3, 9);
        x.item(0, 1, -1, 5);
        x.item(0, 1, 4, 5);
        due.same("the first, the last, no other", items(x, 0, 1), "[7009]");
    }

    private static void lowestBits() {
        due.sentence("becomes v, its lowest bits: 1");
        long[] above = {1L << 8, 1L << 16, 1L << 32, 0};
        for (int lane = 0; lane < 4; lane++) {
            for (int laid : new int[] {1, 127, 128, 200}) {
                boolean held = laid < 128 || lane > 0;
                holds(lane, laid, laid, held);
                holds(lane, laid, laid + above[lane], held);
                holds(lane, laid, laid - above[lane], held);
                holds(lane, laid, laid + 7 * above[lane], held);
                holds(lane, laid, laid + 1, false);
                holds(lane, laid, laid + (1L << 63), lane < 3 && held);
                holds(lane, laid, laid + (1L << 7), false);
                holds(lane, laid, laid + (1L << 15), lane == 0 && held);
                holds(lane, laid, laid + (1L << 31), lane < 2 && held);
            }
        }
    }

    /** That an item which became v is, or is not, what is laid. */
    private static void holds(int lane, int laid, long v, boolean held) {
        SummerWall x = allLaid(laid);
        x.sheet(0, lane, 1);
        due.is("item " + v, x.item(0, lane, 0, v), 1);
        due.is("lane " + lane + ": " + v + " is " + laid, x.weather(0, lane, 0, 1, -1), held ? 3 : 0);
    }

    private static void anotherLane() {
        due.sentence("CAST -12 (of SHEETS another LANE)");
        for (int lane = 0; lane < 4; lane++) {
            for (int as = 0; as < 4; as++) {
                SummerWall x = new SummerWall();
                x.sheet(0, lane, 3);
                x.sheet(1, as, 3);
                int want = as == lane ? 1 : CAST;
                due.is("item", x.item(0, as, 0, 1), want);
                due.is("film", x.film(FAIR, 1, 0, as, 0), want);
                due.is("weather", x.weather(0, as, 0, 1, 0), as == lane ? 7 : CAST);
                due.is("copy", x.copy(0, 0, 1, 0, 1), want);
            }
        }
        SummerWall x = new SummerWall();
        x.sheet(0, 0, 0);
        due.is("also of no items", x.item(0, 1, 0, 0), CAST);
        x.sheet(1, 1, 0);
        due.is("also of no items", x.copy(0, 0, 1, 0, 0), CAST);
    }

    private static SummerWall withSheet(String text, int n) {
        SummerWall x = of(text);
        x.sheet(0, 2, n);
        return x;
    }

    private static void weatherBounds() {
        due.sentence("a row tells what is LAID behind each of n DAYS (1 .. 8)");
        span(due, "sheet", 0, 3, v -> withSheet("60,20;p30", 24).weather(v, 2, 0, 1, -1));
        span(due, "lane", 0, 3, v -> withSheet("60,20;p30", 24).weather(0, v, 0, 1, -1));
        span(due, "n", 1, 8, v -> withSheet("60,20;p30", 24).weather(0, 2, 0, v, -1));
        span(due, "n", 1, 8, v -> withSheet("60,20;p30", 24).weather(0, 2, 0, v, 0));
        SummerWall x = new SummerWall();
        due.is("BAD ahead of NULL", x.weather(0, 0, 0, 9, 0), BAD);
        due.is("NULL ahead of CAST, INDEX, NOT", x.weather(0, 0, 99, 8, 0), NULL);
        SummerWall short1 = withSheet("60,1;p30", 3);
        due.is("BAD ahead of CAST", short1.weather(0, 1, 0, 0, -1), BAD);
        due.is("CAST ahead of INDEX, NOT", short1.weather(0, 1, 99, 8, 0), CAST);
        due.is("INDEX ahead of NOT", short1.weather(0, 2, 0, 4, 0), INDEX);
        due.is("NOT", short1.weather(0, 2, 0, 3, 0), NOT);
    }

    private static void weatherWhichDay() {
        due.sentence("in how many rows (d -1), which on the d-th DAY (0 .. n less 1)");
        for (int n = 1; n <= 8; n++) {
            int days = n;
            span(due, "d of " + n, -1, n - 1, v -> withSheet("60,20;p30", 24).weather(0, 2, 0, days, v));
        }
        SummerWall x = withSheet("60,20;p30", 24);
        int[] weathers = {FAIR, FROST, THAW, FROST, FAIR, THAW, THAW, FROST};
        int laid = 0;
        for (int k = 0; k < 8; k++) {
            laid += weathers[k] == FAIR ? 3 : weathers[k] == FROST ? 1 : 2;
            x.item(0, 2, 5 + k, laid);
        }
        for (int d = 0; d < 8; d++) {
            due.is("on day " + d, x.weather(0, 2, 5, 8, d), 1 << weathers[d]);
        }
        due.is("rows", x.weather(0, 2, 5, 8, -1), 1);
    }

    private static void weatherIndex() {
        due.sentence("by n items of a SHEET taken as a row of a LANE, from item i on");
        for (int size : new int[] {0, 1, 7, 8, 24}) {
            for (int n = 1; n <= 8; n++) {
                SummerWall x = new SummerWall();
                x.sheet(1, 3, size);
                for (int i = -2; i <= 26; i++) {
                    boolean good = i >= 0 && i + n <= size;
                    due.is(n + " of " + size + " from " + i, x.weather(1, 3, i, n, 0), good ? 7 : INDEX);
                }
                due.is("far off", x.weather(1, 3, HIGH, n, 0), INDEX);
                due.is("far off", x.weather(1, 3, LOW, n, 0), INDEX);
                due.is("far off", x.weather(1, 3, HIGH - n + 1, n, 0), INDEX);
            }
        }
    }

    private static void weatherTillSummer() {
        due.sentence("NOT: there are not so many DAYS till SUMMER");
        for (int left = 0; left <= 9; left++) {
            SummerWall x = new SummerWall();
            x.sheet(0, 0, 24);
            x.wall(1, 20);
            days(x, 20 - left, FAIR);
            for (int n = 1; n <= 8; n++) {
                due.is(n + " of " + left, x.weather(0, 0, 0, n, 0), n <= left ? 7 : NOT);
                due.is(n + " of " + left, x.weather(0, 0, 0, n, -1), n <= left ? (int) Math.pow(3, n) : NOT);
            }
        }
    }

    private static void weatherRows() {
        due.sentence("in how many rows of n WEATHERS it would be so");
        int rows = 1;
        SummerWall nobody = new SummerWall();
        nobody.sheet(0, 0, 8);
        for (int n = 1; n <= 8; n++) {
            rows *= 3;
            due.is("all of " + n, nobody.weather(0, 0, 0, n, -1), rows);
        }
        nobody.wall(2, 0);
        nobody.wall(3, 0);
        due.is("also such as will not come", nobody.weather(0, 0, 0, 8, -1), 6561);
        SummerWall blind = of("60,20;b30");
        blind.sheet(0, 0, 8);
        blind.film(FAIR, 8, 0, 0, 0);
        due.is("fair or frost", blind.weather(0, 0, 0, 8, -1), 256);
        due.is("fair or frost", blind.weather(0, 0, 0, 8, 7), 3);
        SummerWall last = of("4,20;p30");
        last.sheet(0, 0, 3);
        last.film(FAIR, 3, 0, 0, 0);
        due.is("fair, then any", last.weather(0, 0, 0, 3, -1), 9);
        due.is("the last stone by any", last.weather(0, 0, 0, 3, 1), 7);
    }

    private static void weatherUsedToday() {
        due.sentence("from now on (what was USED today counts)");
        SummerWall x = of("60,20;p50;3");
        x.use(0);
        x.sheet(0, 2, 2);
        // 5, 2, 4 less 3 today; 5, 2, 4 tomorrow.
        int[][] want = {{0, 2}, {1, 4}, {2, 1}, {3, 0}, {4, 0}, {5, 0}};
        for (int[] w : want) {
            x.item(0, 2, 0, w[0]);
            due.is("laid " + w[0], x.weather(0, 2, 0, 1, 0), w[1]);
        }
        x.item(0, 2, 0, 2);
        x.item(0, 2, 1, 7);
        due.is("today alone", x.weather(0, 2, 0, 2, 1), 1);
        x.day(FAIR);
        x.item(0, 2, 0, 7);
        due.is("from now on, no longer", x.weather(0, 2, 0, 1, 0), 1);
    }

    private static void weatherNoSuchRow() {
        due.sentence("(a set of 0, 1, 2) in such a row");
        SummerWall x = withSheet("60,20;p30", 4);
        x.film(THAW, 4, 0, 2, 0);
        due.is("one row", x.weather(0, 2, 0, 4, -1), 1);
        for (int spoilt = 0; spoilt < 4; spoilt++) {
            SummerWall y = withSheet("60,20;p30", 4);
            y.film(THAW, 4, 0, 2, 0);
            y.item(0, 2, spoilt, 59);
            due.is("no row", y.weather(0, 2, 0, 4, -1), 0);
            for (int d = 0; d < 4; d++) {
                due.is("none on any day", y.weather(0, 2, 0, 4, d), 0);
            }
        }
        x.item(0, 2, 0, -1);
        due.is("below 0", x.weather(0, 2, 0, 1, 0), 0);
        SummerWall longs = allLaid(5);
        longs.sheet(0, 3, 1);
        longs.item(0, 3, 0, 5 + (1L << 32));
        due.is("a long is taken whole", longs.weather(0, 3, 0, 1, -1), 0);
        longs.item(0, 3, 0, 5);
        due.is("a long", longs.weather(0, 3, 0, 1, -1), 3);
        SummerWall stones = allLaid(5);
        stones.sheet(0, 3, 1);
        stones.item(0, 3, 0, 6);
        due.is("more than there are", stones.weather(0, 3, 0, 1, -1), 0);
    }

    private static void filmBounds() {
        due.sentence("What is LAID behind 1, 2, .. n DAYS (1 .. 24");
        span(due, "weather", 0, 2, v -> withSheet("60,20;p30", 24).film(v, 1, 0, 2, 0));
        span(due, "n", 1, 24, v -> withSheet("60,20;p30", 24).film(FAIR, v, 0, 2, 0));
        span(due, "sheet", 0, 3, v -> withSheet("60,20;p30", 24).film(FAIR, 1, v, 2, 0));
        span(due, "lane", 0, 3, v -> withSheet("60,20;p30", 24).film(FAIR, 1, 0, v, 0));
        for (int n = 1; n <= 24; n++) {
            SummerWall x = withSheet("200,20;p10", 24);
            due.is("n", x.film(FAIR, n, 0, 2, 0), n);
            String want = "[" + "123456789ABCDEF?????????".substring(0, n) + "0".repeat(24 - n) + "]";
            due.same("film of " + n, items(x, 0, 2), want);
        }
        due.is("BAD ahead of NULL", new SummerWall().film(FAIR, 25, 0, 0, 0), BAD);
        due.is("NULL ahead of INDEX", new SummerWall().film(FAIR, 24, 0, 0, 99), NULL);
        due.is("BAD ahead of CAST", withSheet("60,20;p30", 3).film(3, 1, 0, 1, 0), BAD);
        due.is("CAST ahead of INDEX", withSheet("60,20;p30", 3).film(FAIR, 24, 0, 1, 99), CAST);
    }

    private static void filmIndex() {
        due.sentence("an item each, comes to a SHEET likewise: n");
        for (int size : new int[] {0, 1, 5, 24}) {
            for (int n : new int[] {1, 2, 5, 6, 24}) {
                for (int i : new int[] {LOW, -1, 0, 1, size - n - 1, size - n, size - n + 1, size, 24, HIGH - n + 1, HIGH}) {
                    SummerWall x = withSheet("200,20;p10", size);
                    boolean good = i >= 0 && (long) i + n <= size;
                    due.is(n + " of " + size + " from " + i, x.film(FAIR, n, 0, 2, i), good ? n : INDEX);
                    if (!good) {
                        due.same("what is refused", items(x, 0, 2), "[" + "0".repeat(size) + "]");
                    }
                }
            }
        }
        SummerWall x = withSheet("200,20;p10", 5);
        x.film(FAIR, 3, 0, 2, 1);
        due.same("the items beside are not touched", items(x, 0, 2), "[01230]");
        SummerWall end = withSheet("200,20;p10", 5);
        end.film(FAIR, 2, 0, 2, 3);
        due.same("at the end", items(end, 0, 2), "[00012]");
    }

    private static void filmBeyondSummer() {
        due.sentence("whether it is SUMMER or not");
        SummerWall x = withSheet("200,2;p10", 5);
        due.is("beyond summer", x.film(FAIR, 5, 0, 2, 0), 5);
        due.same("beyond summer", items(x, 0, 2), "[12345]");
        SummerWall y = withSheet("200,2;p10", 5);
        days(y, 2, FAIR);
        due.is("in summer", y.film(FAIR, 5, 0, 2, 0), 5);
        due.is("nothing is done", y.count(7), 2);
        due.same("in summer", items(y, 0, 2), "[34567]");
    }

    private static void filmStonesAtMost() {
        due.sentence("(STONES at most)");
        SummerWall x = withSheet("7,2;p30", 4);
        x.film(FAIR, 4, 0, 2, 0);
        due.same("seven stones", items(x, 0, 2), "[3677]");
        SummerWall frost = withSheet("7,2;p30", 4);
        frost.film(FROST, 4, 0, 2, 0);
        due.same("in frost", items(frost, 0, 2), "[1234]");
        SummerWall thaw = withSheet("7,2;p30", 4);
        thaw.film(THAW, 4, 0, 2, 0);
        due.same("in thaw", items(thaw, 0, 2), "[2467]");
    }

    private static void filmUsedToday() {
        due.sentence("What was USED today counts today.");
        SummerWall x = withSheet("50,20;p30;2,9", 3);
        x.use(0);
        x.film(FAIR, 3, 0, 2, 0);
        due.same("2 of 3", items(x, 0, 2), "[147]");
        SummerWall y = withSheet("50,20;p30;2,9", 3);
        y.use(0);
        y.use(1);
        y.film(THAW, 3, 0, 2, 0);
        due.same("11 of 2", items(y, 0, 2), "[024]");
        SummerWall z = withSheet("50,20;p30;2,9", 3);
        z.use(1);
        z.day(FAIR);
        z.film(FROST, 3, 0, 2, 0);
        due.same("no longer", items(z, 0, 2), "[123]");
    }

    private static void filmLowestBits() {
        due.sentence("comes to a SHEET likewise");
        for (int lane = 0; lane < 4; lane++) {
            for (int laid : new int[] {127, 128, 200}) {
                SummerWall x = allLaid(laid);
                x.sheet(3, lane, 1);
                due.is("film", x.film(FAIR, 1, 3, lane, 0), 1);
                due.is("lane " + lane + ", " + laid, x.weather(3, lane, 0, 1, -1), lane > 0 || laid < 128 ? 3 : 0);
            }
        }
    }

    private static final Doing TWO = x -> {
        x.sheet(0, 2, 6);
        x.sheet(1, 2, 4);
        x.sheet(2, 1, 6);
        for (int k = 0; k < 6; k++) {
            x.item(0, 2, k, k + 1);
        }
        for (int k = 0; k < 4; k++) {
            x.item(1, 2, k, k + 11);
        }
    };

    private static void copyBounds() {
        due.sentence("BAD; NULL (either); CAST: of unlike LANES; INDEX.");
        span(due, "from", 0, 3, v -> behind(TWO).copy(v, 0, 1, 0, 1));
        span(due, "to", 0, 3, v -> behind(TWO).copy(0, 0, v, 0, 1));
        SummerWall x = behind(TWO);
        due.is("BAD ahead of NULL", x.copy(4, 0, 3, 0, 1), BAD);
        due.is("BAD ahead of NULL", x.copy(3, 0, 4, 0, 1), BAD);
        due.is("BAD ahead of INDEX", x.copy(0, 9, 4, 0, 1), BAD);
        due.is("from is missing", x.copy(3, 0, 0, 0, 1), NULL);
        due.is("to is missing", x.copy(0, 0, 3, 0, 1), NULL);
        due.is("both are", x.copy(3, 0, 3, 0, 1), NULL);
        due.is("NULL ahead of INDEX", x.copy(0, 9, 3, 9, -1), NULL);
        due.is("NULL ahead of INDEX", x.copy(3, -1, 0, 0, 1), NULL);
        due.is("NULL ahead of INDEX, none to copy", x.copy(3, 9, 0, 0, 0), NULL);
        due.is("unlike lanes", x.copy(0, 0, 2, 0, 1), CAST);
        due.is("unlike lanes", x.copy(2, 0, 0, 0, 1), CAST);
        due.is("unlike lanes, none to copy", x.copy(2, 0, 0, 0, 0), CAST);
        due.is("CAST ahead of INDEX", x.copy(0, 9, 2, 0, 1), CAST);
        due.is("CAST ahead of INDEX", x.copy(0, 0, 2, 0, -1), CAST);
    }

    private static void copyIndex() {
        due.sentence("n items of a SHEET from i on come to another one (or the same) from j on ... INDEX");
        int[] some = {LOW, -1, 0, 1, 2, 3, 4, 5, 6, 7, 24, HIGH - 1, HIGH};
        for (int i : some) {
            for (int j : some) {
                for (int n : some) {
                    SummerWall x = behind(TWO);
                    boolean good = i >= 0 && j >= 0 && n >= 0 && (long) i + n <= 6 && (long) j + n <= 4;
                    due.is("from " + i + " to " + j + ", " + n, x.copy(0, i, 1, j, n), good ? n : INDEX);
                }
            }
        }
        String[] left = {items(behind(TWO), 0, 2), items(behind(TWO), 1, 2)};
        int[][] refused = {{-1, 0, 2}, {0, -1, 2}, {0, 0, -1}, {5, 0, 2}, {0, 3, 2}, {0, 0, 5}, {3, 0, 4}};
        for (int[] r : refused) {
            for (int s = 0; s < 2; s++) {
                SummerWall x = behind(TWO);
                due.is("refused", x.copy(0, r[0], 1, r[1], r[2]), INDEX);
                due.same("what is refused changes nothing", items(x, s, 2), left[s]);
            }
        }
    }

    private static void copyOfNone() {
        due.sentence("as if all were taken ahead: n");
        SummerWall x = behind(TWO);
        due.is("none", x.copy(0, 0, 1, 0, 0), 0);
        due.is("none at the ends", x.copy(0, 6, 1, 4, 0), 0);
        due.is("none behind the end", x.copy(0, 7, 1, 0, 0), INDEX);
        due.is("none behind the end", x.copy(0, 0, 1, 5, 0), INDEX);
        due.is("none ahead of the first", x.copy(0, -1, 1, 0, 0), INDEX);
        due.is("none ahead of the first", x.copy(0, 0, 1, -1, 0), INDEX);
        due.is("one fewer than none", x.copy(0, 1, 1, 1, -1), INDEX);
        x.sheet(3, 2, 0);
        due.is("none of none", x.copy(3, 0, 3, 0, 0), 0);
        due.is("one of none", x.copy(3, 0, 3, 0, 1), INDEX);
        due.same("nothing came", items(x, 1, 2), "[BCDE]");
        due.is("how many", behind(TWO).copy(0, 0, 1, 0, 4), 4);
    }

    private static void copyAsIfTakenAhead() {
        due.sentence("(or the same) from j on, as if all were taken ahead");
        String[][] want = { // from i, to j, how many
            {"015", "[112345]"}, {"105", "[234566]"}, {"024", "[121234]"}, {"204", "[345656]"}, {"006", "[123456]"}, {"033", "[123123]"}, {"303", "[456456]"},
        };
        for (String[] w : want) {
            SummerWall x = behind(TWO);
            int i = w[0].charAt(0) - '0', j = w[0].charAt(1) - '0', n = w[0].charAt(2) - '0';
            due.is("copy " + w[0], x.copy(0, i, 0, j, n), n);
            due.same("copy " + w[0], items(x, 0, 2), w[1]);
        }
    }

    private static void copyToAnother() {
        due.sentence("come to another one");
        String[][] want = {{"004", "[1234]"}, {"204", "[3456]"}, {"021", "[BC1E]"}, {"531", "[BCD6]"}, {"502", null}};
        for (String[] w : want) {
            SummerWall x = behind(TWO);
            int i = w[0].charAt(0) - '0', j = w[0].charAt(1) - '0', n = w[0].charAt(2) - '0';
            due.is("copy " + w[0], x.copy(0, i, 1, j, n), w[1] == null ? INDEX : n);
            due.same("copy " + w[0], items(x, 1, 2), w[1] == null ? "[BCDE]" : w[1]);
            due.same("where they came from", items(x, 0, 2), "[123456]");
        }
        SummerWall x = behind(TWO);
        x.copy(0, 0, 1, 0, 4);
        x.item(0, 2, 0, 9);
        due.same("they are two rows still", items(x, 1, 2), "[1234]");
        for (int lane = 0; lane < 4; lane++) {
            SummerWall y = new SummerWall();
            y.sheet(0, lane, 24);
            y.sheet(1, lane, 24);
            y.item(0, lane, 0, 3);
            y.item(0, lane, 23, 5);
            due.is("all 24", y.copy(0, 0, 1, 0, 24), 24);
            due.same("all 24", items(y, 1, lane), "[3" + "0".repeat(22) + "5]");
        }
    }
}
