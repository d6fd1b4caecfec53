import java.util.function.IntUnaryOperator;

/** What the tests of edges share: walls by texts, numbers at their bounds, and all that can be seen of a wall. */
abstract class Edges {
    static final int BAD = -1, NOT = -2, FULL = -3, NONE = -4, NULL = -11, CAST = -12, INDEX = -13, SIZE = -14;
    static final int LOW = Integer.MIN_VALUE, HIGH = Integer.MAX_VALUE, MILLION = 1000000;
    static final int FAIR = 0, FROST = 1, THAW = 2;

    /** Calls that bring a wall somewhere. */
    interface Doing {
        void on(SummerWall x);
    }

    /** One call and its answer. */
    interface Asking {
        int on(SummerWall x);
    }

    // ---- walls by texts

    static int tell(SummerWall x, String text) {
        type(x, text);
        return x.bargain();
    }

    static void type(SummerWall x, String text) {
        for (char c : text.toCharArray()) {
            x.type(c);
        }
    }

    static SummerWall of(String text) {
        SummerWall x = new SummerWall();
        if (tell(x, text) < 1) {
            throw new IllegalArgumentException("no bargain: " + text);
        }
        return x;
    }

    static SummerWall of(String text, int frost, int thaw) {
        SummerWall x = of(text);
        x.wall(2, 0);
        x.wall(3, thaw);
        x.wall(2, frost);
        return x;
    }

    static SummerWall fairOnly(String text) {
        return of(text, 0, 0);
    }

    /** A wall that has so many stones, all of them laid, and days left. */
    static SummerWall allLaid(int stones) {
        SummerWall x = of(stones + ",40;g99,w10");
        for (int k = 0; k < 8; k++) {
            x.day(FAIR);
        }
        return x;
    }

    static void days(SummerWall x, int n, int weather) {
        for (int k = 0; k < n; k++) {
            x.day(weather);
        }
    }

    // ---- numbers at their bounds

    /** That a number is BAD beside its bounds and far from them, and fine on and between them. */
    static void span(Due due, String what, int least, int most, IntUnaryOperator call) {
        int[] outside = {least - 1, least - 2, LOW, most + 1, most + 2, HIGH};
        for (int v : outside) {
            if (v < least || v > most) {
                due.is(what + " " + v, call.applyAsInt(v), BAD);
            }
        }
        int step = Math.max(1, (most - least) / 250);
        for (long v = least; v <= most; v += step) {
            due.that(what + " " + v, call.applyAsInt((int) v) != BAD);
        }
        due.that(what + " " + most, call.applyAsInt(most) != BAD);
    }

    static void counts(Due due, String when, SummerWall x, int... want) {
        for (int k = 0; k < want.length; k++) {
            due.is(when + ": count(" + k + ")", x.count(k), want[k]);
        }
    }

    // ---- all that can be seen

    static SummerWall behind(Doing doing) {
        SummerWall x = new SummerWall();
        doing.on(x);
        return x;
    }

    /** All that can be seen of what a run of calls leaves behind. Each view uses up an object of its own. */
    static String seen(Doing doing) {
        return seenButTape(doing) + tape(doing);
    }

    static String seenButTape(Doing doing) {
        StringBuilder b = new StringBuilder("now ").append(state(behind(doing)));
        b.append(hindrances(behind(doing))).append(undone(behind(doing)));
        SummerWall back = behind(doing);
        b.append(" image ").append(back.restore()).append(state(back));
        SummerWall again = behind(doing);
        again.restore();
        b.append(undone(again)).append(sheets(doing));
        return b.toString();
    }

    private static String state(SummerWall x) {
        StringBuilder b = new StringBuilder("{");
        for (int k = 0; k <= 12; k++) {
            b.append(x.count(k)).append(' ');
        }
        for (int builder = 0; builder < 4; builder++) {
            for (int what = 0; what <= 6; what++) {
                b.append(x.of(builder, what)).append(what < 6 ? "," : " ");
            }
        }
        int draw = x.seed(0);
        x.seed(draw);
        return b.append("draw ").append(draw).append("}").toString();
    }

    /** What each hindrance that is not used costs and breaks, all oaths being sworn. */
    private static String hindrances(SummerWall x) {
        StringBuilder b = new StringBuilder(" hindrances");
        x.wall(1, 40);
        for (int k = 0; k < 4; k++) {
            x.oath(k, 1);
        }
        for (int k = 0; k < 6; k++) {
            b.append(' ').append(x.use(k)).append('/').append(x.count(10));
        }
        return b.toString();
    }

    private static String undone(SummerWall x) {
        StringBuilder b = new StringBuilder(" undone");
        for (int k = 0; k < 10; k++) {
            b.append(' ').append(x.undo()).append(state(x));
        }
        return b.toString();
    }

    /** The tape by how long it is and by what it says, as it is and with some more letters. */
    private static String tape(Doing doing) {
        StringBuilder b = new StringBuilder(" tape ").append(behind(doing).type(' '));
        for (String more : new String[] {"", "0", "10", ",5;p10", ";p10"}) {
            SummerWall x = behind(doing);
            b.append(' ').append(tell(x, more)).append(state(x));
        }
        return b.toString();
    }

    private static String sheets(Doing doing) {
        StringBuilder b = new StringBuilder(" sheets");
        for (int sheet = 0; sheet < 4; sheet++) {
            int lane = laneOf(behind(doing), sheet);
            b.append(' ').append(lane).append(':').append(behind(doing).drop(sheet));
            if (lane >= 0) {
                b.append(items(behind(doing), sheet, lane));
            }
        }
        return b.toString();
    }

    /** A lane by a call that is refused all the same; -1: the sheet holds nothing. */
    static int laneOf(SummerWall x, int sheet) {
        for (int lane = 0; lane < 4; lane++) {
            if (x.item(sheet, lane, -1, 0) == INDEX) {
                return lane;
            }
        }
        return -1;
    }

    /** All items that are 0 to 15, the others as ?; what else there was of the wall is gone then. */
    static String items(SummerWall x, int sheet, int lane) {
        StringBuilder b = new StringBuilder("??????????????????????????".substring(0, 24));
        x.bargain();
        // One builder of pace 1 lays nothing in frost or in thaw, so an item that is as much as is laid fits both.
        tell(x, "200,40;p10");
        int size = 0;
        while (size < 24 && x.weather(sheet, lane, size, 1, 0) != INDEX) {
            size++;
        }
        for (int laid = 0; laid <= 15; laid++) {
            for (int i = 0; i < size; i++) {
                if (x.weather(sheet, lane, i, 1, 0) == 6) {
                    b.setCharAt(i, "0123456789ABCDEF".charAt(laid));
                }
            }
            x.day(FAIR);
        }
        b.setLength(size);
        return "[" + b + "]";
    }
}
