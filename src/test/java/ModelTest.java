import java.util.ArrayList;
import java.util.List;
import java.util.Random;

/** Runs of drawn calls on SummerWall and on NaiveWall: the answers must be the same ones. */
public final class ModelTest {
    private static final int RUNS = 1500, CALLS = 300;

    private final Random r;
    private final SummerWall wall = new SummerWall();
    private final NaiveWall naive = new NaiveWall();
    private final List<String> told = new ArrayList<>();
    private final Due due;

    private ModelTest(Due due, long seed) {
        this.due = due;
        this.r = new Random(seed);
    }

    public static void main(String[] args) {
        Due due = new Due("ModelTest");
        for (int run = 0; run < RUNS && !due.failed(); run++) {
            ModelTest one = new ModelTest(due, run);
            // Walls so high that the naive odds take long are left to some runs.
            one.open(run % 5 == 0);
            for (int k = 0; k < CALLS && !due.failed(); k++) {
                one.step();
            }
            if (due.failed()) {
                System.out.println("run " + run + ": " + one.told);
            }
        }
        due.end();
    }

    private void same(String call, int got, int want) {
        told.add(call);
        due.is(call, got, want);
    }

    /** Mostly from least to most, now and then beyond. */
    private int near(int least, int most) {
        int luck = r.nextInt(40);
        if (luck == 0) return least - 1 - r.nextInt(3);
        if (luck == 1) return most + 1 + r.nextInt(3);
        if (luck == 2) return r.nextInt();
        if (luck == 3) return r.nextBoolean() ? least : most;
        return least + r.nextInt(most - least + 1);
    }

    private int share() {
        int[] often = {0, 1, 500000, 999999, 1000000, 900000, 100000, -1, 1000001};
        return r.nextInt(3) == 0 ? often[r.nextInt(often.length)] : r.nextInt(1000001);
    }

    private void open(boolean high) {
        text((high ? 1 + r.nextInt(200) : 1 + r.nextInt(60)) + "," + (1 + r.nextInt(high ? 40 : 12)) + ";" + builders() + hindrances());
    }

    /** Mostly a number as told, now and then with noughts ahead of it or digits behind it. */
    private String number(int most) {
        String noughts = r.nextInt(4) == 0 ? "000".substring(r.nextInt(3)) : "";
        String more = r.nextInt(8) == 0 ? "" + r.nextInt(100) : "";
        return noughts + (1 + r.nextInt(most)) + more;
    }

    private String builders() {
        StringBuilder b = new StringBuilder();
        int n = 1 + r.nextInt(4);
        for (int k = 0; k < n; k++) {
            b.append(k == 0 ? "" : ",").append("phbgw".charAt(r.nextInt(5))).append(1 + r.nextInt(r.nextBoolean() ? 3 : 9)).append(r.nextInt(r.nextBoolean() ? 3 : 10));
        }
        return b.toString();
    }

    private String hindrances() {
        StringBuilder b = new StringBuilder();
        int n = r.nextInt(7);
        for (int k = 0; k < n; k++) {
            b.append(k == 0 ? ";" : ",").append(1 + r.nextInt(9)).append(r.nextBoolean() ? "" : "abcd".substring(r.nextInt(4)).substring(0, 1));
        }
        return b.toString();
    }

    private String spoilt(String text) {
        StringBuilder b = new StringBuilder(text);
        int times = r.nextInt(4);
        for (int k = 0; k < times; k++) {
            int at = r.nextInt(b.length() + 1);
            int luck = r.nextInt(6);
            if (luck < 3) b.insert(at, ' ');
            else if (luck == 3) b.insert(at, "0123456789,;phbgwabcd xP".charAt(r.nextInt(24)));
            else if (at < b.length() && luck == 4) b.deleteCharAt(at);
            else if (r.nextInt(3) == 0) b.setLength(at);
        }
        return b.toString();
    }

    private void text(String text) {
        for (char c : text.toCharArray()) {
            same("type(" + (int) c + ")", wall.type(c), naive.type(c));
        }
        same("bargain()", wall.bargain(), naive.bargain());
    }

    private void step() {
        switch (r.nextInt(32)) {
            case 0: { int a = near(0, 4), b = near(1, 9), c = near(0, 9);
                same("builder(" + a + "," + b + "," + c + ")", wall.builder(a, b, c), naive.builder(a, b, c)); break; }
            case 1: { int a = near(0, 3), b = near(0, 6);
                same("of(" + a + "," + b + ")", wall.of(a, b), naive.of(a, b)); break; }
            case 2: { int a = near(0, 3), b = a == 0 ? near(1, 100) : a == 1 ? near(1, 15) : near(0, 6);
                same("wall(" + a + "," + b + ")", wall.wall(a, b), naive.wall(a, b)); break; }
            case 3: { int a = near(1, 9), b = r.nextInt(3) == 0 ? -4 : near(0, 3);
                same("hindrance(" + a + "," + b + ")", wall.hindrance(a, b), naive.hindrance(a, b)); break; }
            case 4: { int a = near(0, 3), b = near(0, 1);
                same("oath(" + a + "," + b + ")", wall.oath(a, b), naive.oath(a, b)); break; }
            case 5: { int a = near(32, 126);
                same("type(" + a + ")", wall.type(a), naive.type(a)); break; }
            case 6: { if (r.nextInt(4) == 0) text(spoilt(number(60) + "," + number(15) + ";" + builders() + hindrances())); break; }
            case 7: case 8: { int a = near(0, 12);
                same("count(" + a + ")", wall.count(a), naive.count(a)); break; }
            case 9: case 10: { int a = near(0, 2);
                same("day(" + a + ")", wall.day(a), naive.day(a)); break; }
            case 11: case 12: { int a = near(0, 5);
                same("use(" + a + ")", wall.use(a), naive.use(a)); break; }
            case 13: { int a = r.nextInt(4) == 0 ? near(1, 40) : 1 + r.nextInt(3);
                same("drift(" + a + ")", wall.drift(a), naive.drift(a)); break; }
            case 14: case 15: same("undo()", wall.undo(), naive.undo()); break;
            case 16: { int a = near(0, Integer.MAX_VALUE - 1);
                same("seed(" + a + ")", wall.seed(a), naive.seed(a)); break; }
            default: ask();
        }
        if (r.nextInt(10) == 0) {
            for (int k = 0; k <= 12; k++) same("count(" + k + ")", wall.count(k), naive.count(k));
        }
    }

    private void ask() {
        switch (r.nextInt(16)) {
            case 0: same("odds()", wall.odds(), naive.odds()); break;
            case 1: { int a = near(0, naive.count(3)), b = near(0, naive.count(2));
                same("oddsAt(" + a + "," + b + ")", wall.oddsAt(a, b), naive.oddsAt(a, b)); break; }
            case 2: { int a = share();
                same("sure(" + a + ")", wall.sure(a), naive.sure(a)); break; }
            case 3: { int a = near(0, 3), b = share();
                same("pace(" + a + "," + b + ")", wall.pace(a, b), naive.pace(a, b)); break; }
            case 4: { int a = share(), b = near(0, 1);
                same("plan(" + a + "," + b + ")", wall.plan(a, b), naive.plan(a, b)); break; }
            case 5: { int a = near(0, 5), b = near(0, 1);
                same("best(" + a + "," + b + ")", wall.best(a, b), naive.best(a, b)); break; }
            case 6: { int a = near(0, 2);
                same("soonest(" + a + ")", wall.soonest(a), naive.soonest(a)); break; }
            case 7: { int a = near(0, 6), b = near(0, 1);
                same("mean(" + a + "," + b + ")", wall.mean(a, b), naive.mean(a, b)); break; }
            case 8: same("image()", wall.image(), naive.image()); break;
            case 9: same("restore()", wall.restore(), naive.restore()); break;
            case 10: case 11: weathers(); break;
            case 12: { int a = near(0, 3), b = near(0, 3), c = near(0, 24);
                same("sheet(" + a + "," + b + "," + c + ")", wall.sheet(a, b, c), naive.sheet(a, b, c)); break; }
            case 13: { int a = near(0, 3);
                same("drop(" + a + ")", wall.drop(a), naive.drop(a)); break; }
            case 14: { int a = near(0, 3), b = near(0, 3), c = near(0, 23);
                long v = r.nextInt(3) == 0 ? r.nextLong() : r.nextInt(60);
                same("item(" + a + "," + b + "," + c + "," + v + ")", wall.item(a, b, c, v), naive.item(a, b, c, v)); break; }
            default: { int a = near(0, 3), b = near(0, 8), c = near(0, 3), d = near(0, 8), e = near(0, 12);
                same("copy(" + a + "," + b + "," + c + "," + d + "," + e + ")", wall.copy(a, b, c, d, e), naive.copy(a, b, c, d, e)); break; }
        }
    }

    /** A film, perhaps with some items of other weathers, and what it tells. */
    private void weathers() {
        int sheet = near(0, 3), lane = near(0, 3), i = near(0, 6);
        if (r.nextBoolean()) same("sheet(" + sheet + "," + lane + ",20)", wall.sheet(sheet, lane, 20), naive.sheet(sheet, lane, 20));
        int films = 1 + r.nextInt(2);
        for (int k = 0; k < films; k++) {
            int w = near(0, 2), n = near(1, k == 0 ? 24 : 3);
            if (k == 0 && r.nextBoolean()) n = 8;
            same("film(" + w + "," + n + "," + sheet + "," + lane + "," + i + ")", wall.film(w, n, sheet, lane, i), naive.film(w, n, sheet, lane, i));
        }
        int n = r.nextInt(3) == 0 ? near(1, 8) : 1 + r.nextInt(3);
        int d = n >= 1 && n <= 8 ? near(-1, n - 1) : 0;
        same("weather(" + sheet + "," + lane + "," + i + "," + n + "," + d + ")", wall.weather(sheet, lane, i, n, d), naive.weather(sheet, lane, i, n, d));
        same("weather(" + sheet + "," + lane + "," + i + "," + n + ",-1)", wall.weather(sheet, lane, i, n, -1), naive.weather(sheet, lane, i, n, -1));
    }
}
