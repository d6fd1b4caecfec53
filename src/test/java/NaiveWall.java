import java.util.ArrayDeque;
import java.util.ArrayList;
import java.util.HashMap;
import java.util.List;
import java.util.Map;

/** The document said once more, in the slowest and plainest way, to be held against SummerWall. */
final class NaiveWall {
    static final int BAD = -1, NOT = -2, FULL = -3, NONE = -4, NULL = -11, CAST = -12, INDEX = -13, SIZE = -14;

    private static final class Deed {
        int day, laid, draw;
        List<Integer> used, today, broken;
    }

    private static final class State {
        int stones = 60, days = 20, frost = 2, thaw = 1, day = 0, laid = 0, draw = 1;
        List<int[]> builders = new ArrayList<>();
        List<int[]> hindrances = new ArrayList<>();
        List<Integer> used = new ArrayList<>(), today = new ArrayList<>(), broken = new ArrayList<>();
        boolean[] sworn = {true, true, true, true};
        ArrayDeque<Deed> deeds = new ArrayDeque<>();

        State twin() {
            State t = new State();
            t.stones = stones; t.days = days; t.frost = frost; t.thaw = thaw;
            t.day = day; t.laid = laid; t.draw = draw;
            t.builders = new ArrayList<>(builders);
            t.hindrances = new ArrayList<>(hindrances);
            t.used = new ArrayList<>(used);
            t.today = new ArrayList<>(today);
            t.broken = new ArrayList<>(broken);
            t.sworn = sworn.clone();
            t.deeds = new ArrayDeque<>(deeds);
            return t;
        }
    }

    private State s = new State();
    private State kept = null;
    private String tape = "";
    private final Object[] sheets = new Object[4];

    // ---- builders

    int builder(int kind, int pace, int horse) {
        if (kind < 0 || kind > 4 || pace < 1 || pace > 9 || horse < 0 || horse > 9) return BAD;
        if (s.builders.size() == 4) return FULL;
        s.builders.add(new int[] {kind, pace, horse});
        s.deeds.clear();
        return s.builders.size() - 1;
    }

    private static int hauls(int[] b, int laid) {
        if (b[0] == 1) return b[1] + b[2];
        if (b[0] == 3) return 2 * (b[1] + b[2]);
        if (b[0] == 4) return b[1] + laid / 10;
        return b[1];
    }

    private static int lays(int[] b, int weather, int laid) {
        int h = hauls(b, laid);
        if (weather == 0 || (weather == 1 && b[0] == 2)) return h;
        if (weather == 1) return h / 2;
        return Math.max(0, h - (b[0] == 3 ? 3 : 1));
    }

    int of(int builder, int what) {
        if (builder < 0 || builder >= s.builders.size() || what < 0 || what > 6) return BAD;
        int[] b = s.builders.get(builder);
        if (what < 3) return b[what];
        if (what == 3) return hauls(b, s.laid);
        return lays(b, what - 4, s.laid);
    }

    int wall(int what, int v) {
        if (what < 0 || what > 3) return BAD;
        int[] least = {1, 1, 0, 0}, most = {200, 40, 10, 10};
        if (v < least[what] || v > most[what]) return BAD;
        int was;
        if (what == 0) {
            if (v < s.laid) return NOT;
            was = s.stones; s.stones = v;
        } else if (what == 1) {
            if (v < s.day) return NOT;
            was = s.days; s.days = v;
        } else if (what == 2) {
            if (v + s.thaw > 10) return NOT;
            was = s.frost; s.frost = v;
        } else {
            if (v + s.frost > 10) return NOT;
            was = s.thaw; s.thaw = v;
        }
        return was;
    }

    int hindrance(int cost, int oath) {
        if (cost < 1 || cost > 9 || !(oath == NONE || (oath >= 0 && oath <= 3))) return BAD;
        if (s.hindrances.size() == 6) return FULL;
        s.hindrances.add(new int[] {cost, oath});
        s.deeds.clear();
        return s.hindrances.size() - 1;
    }

    int oath(int k, int is) {
        if (k < 0 || k > 3 || is < 0 || is > 1) return BAD;
        int was = s.sworn[k] ? 1 : 0;
        s.sworn[k] = is == 1;
        return was;
    }

    int type(int letter) {
        if (letter < 32 || letter > 126) return BAD;
        if (tape.length() == 60) return FULL;
        tape += (char) letter;
        return tape.length();
    }

    /** A word of the tape: its text and its place. */
    private static final class Word {
        final String text;
        final int place;
        Word(String text, int place) { this.text = text; this.place = place; }
    }

    /** Splits into single letters, but what stands ahead of the first ; into runs of three digits at most, too. */
    private static List<Word> words(String t) {
        List<Word> words = new ArrayList<>();
        int k = 0;
        boolean numbers = true;
        while (k < t.length()) {
            char c = t.charAt(k);
            if (c == ' ') { k++; continue; }
            if (c == ';') numbers = false;
            int e = k + 1;
            if (numbers && Character.isDigit(c)) while (e < t.length() && e < k + 3 && Character.isDigit(t.charAt(e))) e++;
            words.add(new Word(t.substring(k, e), k));
            k = e;
        }
        words.add(new Word("", t.length()));
        return words;
    }

    private static boolean numberIn(String w, int most) {
        return w.matches("[0-9]{1,3}") && Integer.parseInt(w) >= 1 && Integer.parseInt(w) <= most;
    }

    int bargain() {
        List<Word> w = words(tape);
        tape = "";
        int at = 0;
        State t = s.twin();
        t.builders.clear(); t.hindrances.clear(); t.deeds.clear();
        t.used.clear(); t.today.clear(); t.broken.clear();
        t.day = 0; t.laid = 0;
        if (!numberIn(w.get(at).text, 200)) return -20 - w.get(at).place;
        t.stones = Integer.parseInt(w.get(at++).text);
        if (!w.get(at).text.equals(",")) return -20 - w.get(at).place;
        at++;
        if (!numberIn(w.get(at).text, 40)) return -20 - w.get(at).place;
        t.days = Integer.parseInt(w.get(at++).text);
        if (!w.get(at).text.equals(";")) return -20 - w.get(at).place;
        do {
            at++;
            if (!w.get(at).text.matches("[phbgw]")) return -20 - w.get(at).place;
            int kind = "phbgw".indexOf(w.get(at++).text);
            if (!w.get(at).text.matches("[1-9]")) return -20 - w.get(at).place;
            int pace = Integer.parseInt(w.get(at++).text);
            if (!w.get(at).text.matches("[0-9]")) return -20 - w.get(at).place;
            t.builders.add(new int[] {kind, pace, Integer.parseInt(w.get(at++).text)});
        } while (w.get(at).text.equals(",") && t.builders.size() < 4);
        if (w.get(at).text.equals(";")) {
            do {
                at++;
                if (!w.get(at).text.matches("[1-9]")) return -20 - w.get(at).place;
                int cost = Integer.parseInt(w.get(at++).text);
                int oath = NONE;
                if (w.get(at).text.matches("[abcd]")) oath = "abcd".indexOf(w.get(at++).text);
                t.hindrances.add(new int[] {cost, oath});
            } while (w.get(at).text.equals(",") && t.hindrances.size() < 6);
        }
        if (!w.get(at).text.equals("")) return -20 - w.get(at).place;
        s = t;
        return s.builders.size();
    }

    private static int bits(List<Integer> set) {
        int b = 0;
        for (int k : set) b |= 1 << k;
        return b;
    }

    private int costToday() {
        int c = 0;
        for (int k : s.today) c += s.hindrances.get(k)[0];
        return c;
    }

    int count(int what) {
        int sworn = 0;
        for (int k = 0; k < 4; k++) if (s.sworn[k]) sworn |= 1 << k;
        int[] all = {s.builders.size(), s.hindrances.size(), s.stones, s.days, s.frost, s.thaw, s.day, s.laid,
            bits(s.used), costToday(), bits(s.broken), sworn, s.deeds.size()};
        return what < 0 || what > 12 ? BAD : all[what];
    }

    // ---- what is done

    private void keepDeed() {
        Deed d = new Deed();
        d.day = s.day; d.laid = s.laid; d.draw = s.draw;
        d.used = new ArrayList<>(s.used);
        d.today = new ArrayList<>(s.today);
        d.broken = new ArrayList<>(s.broken);
        s.deeds.addLast(d);
        if (s.deeds.size() > 8) s.deeds.removeFirst();
    }

    private int behind(int weather, int laid, int cost) {
        int sum = 0;
        for (int[] b : s.builders) sum += lays(b, weather, laid);
        return Math.min(s.stones, laid + Math.max(0, sum - cost));
    }

    private int goBy(int weather) {
        int ahead = s.laid;
        s.laid = behind(weather, s.laid, costToday());
        s.today.clear();
        s.day++;
        return s.laid - ahead;
    }

    int day(int weather) {
        if (weather < 0 || weather > 2) return BAD;
        if (s.day == s.days) return FULL;
        keepDeed();
        return goBy(weather);
    }

    int use(int h) {
        if (h < 0 || h >= s.hindrances.size()) return BAD;
        if (s.used.contains(h)) return NOT;
        if (s.day == s.days) return FULL;
        keepDeed();
        s.used.add(h);
        s.today.add(h);
        int oath = s.hindrances.get(h)[1];
        if (oath != NONE && s.sworn[oath] && !s.broken.contains(oath)) s.broken.add(oath);
        return costToday();
    }

    int drift(int n) {
        if (n < 1 || n > 40) return BAD;
        if (s.day == s.days) return FULL;
        int sum = 0;
        for (int k = 0; k < n && s.day < s.days; k++) {
            keepDeed();
            s.draw = java.math.BigInteger.valueOf(s.draw).multiply(java.math.BigInteger.valueOf(1103515245))
                .add(java.math.BigInteger.valueOf(12345)).mod(java.math.BigInteger.ONE.shiftLeft(31)).intValueExact();
            int lot = (s.draw / 65536) % 10;
            sum += goBy(lot < s.frost ? 1 : lot < s.frost + s.thaw ? 2 : 0);
        }
        return sum;
    }

    int undo() {
        if (s.deeds.isEmpty()) return NONE;
        Deed d = s.deeds.removeLast();
        s.day = d.day; s.laid = d.laid; s.draw = d.draw;
        s.used = new ArrayList<>(d.used);
        s.today = new ArrayList<>(d.today);
        s.broken = new ArrayList<>(d.broken);
        return s.deeds.size();
    }

    int seed(int v) {
        if (v < 0) return BAD;
        int was = s.draw;
        s.draw = v;
        return was;
    }

    // ---- foretold

    private int odds(int day, int laid, int[] costs, Map<Integer, Integer> memo) {
        if (laid == s.stones) return 1000000;
        if (day == s.days) return 0;
        Integer known = memo.get(day * 1000 + laid);
        if (known != null) return known;
        int[] weight = {10 - s.frost - s.thaw, s.frost, s.thaw};
        long sum = 0;
        for (int w = 0; w < 3; w++) sum += (long) weight[w] * odds(day + 1, behind(w, laid, costs[day]), costs, memo);
        int answer = (int) (sum / 10);
        memo.put(day * 1000 + laid, answer);
        return answer;
    }

    private int oddsWith(int costNow) {
        int[] costs = new int[41];
        costs[s.day] = costNow;
        return odds(s.day, s.laid, costs, new HashMap<>());
    }

    int odds() {
        return oddsWith(costToday());
    }

    int oddsAt(int day, int laid) {
        if (day < 0 || day > s.days || laid < 0 || laid > s.stones) return BAD;
        return odds(day, laid, new int[41], new HashMap<>());
    }

    int sure(int least) {
        if (least < 0 || least > 1000000) return BAD;
        int laid = s.laid;
        for (int d = s.day; d <= s.days; d++) {
            int o = d == s.day ? odds() : oddsAt(d, laid);
            if (o >= least) return d;
            laid = behind(0, laid, d == s.day ? costToday() : 0);
        }
        return NONE;
    }

    int pace(int builder, int least) {
        if (builder < 0 || builder >= s.builders.size() || least < 0 || least > 1000000) return BAD;
        int[] real = s.builders.get(builder);
        int answer = NONE;
        for (int more = 20; more >= 0; more--) {
            s.builders.set(builder, new int[] {real[0], real[1] + more, real[2]});
            if (odds() >= least) answer = more;
        }
        s.builders.set(builder, real);
        return answer;
    }

    int plan(int most, int what) {
        if (most < 0 || most > 1000000 || what < 0 || what > 1) return BAD;
        for (int size = 0; size <= 6; size++) {
            for (int set = 0; set < 64; set++) {
                if (Integer.bitCount(set) != size) continue;
                int cost = costToday();
                boolean may = true;
                for (int h = 0; h < 6; h++) {
                    if ((set >> h & 1) == 0) continue;
                    if (h >= s.hindrances.size() || s.used.contains(h)) { may = false; break; }
                    int oath = s.hindrances.get(h)[1];
                    if (oath != NONE && s.sworn[oath]) may = false;
                    cost += s.hindrances.get(h)[0];
                }
                if (may && oddsWith(cost) <= most) return what == 0 ? size : set;
            }
        }
        return NONE;
    }

    int best(int h, int what) {
        if (h < 0 || h >= s.hindrances.size() || what < 0 || what > 1) return BAD;
        if (s.used.contains(h)) return NOT;
        if (s.day == s.days) return NONE;
        int bestDay = -1, least = Integer.MAX_VALUE;
        for (int d = s.day; d < s.days; d++) {
            int[] costs = new int[41];
            costs[s.day] = costToday();
            costs[d] += s.hindrances.get(h)[0];
            int o = odds(s.day, s.laid, costs, new HashMap<>());
            if (o < least) { least = o; bestDay = d; }
        }
        return what == 0 ? bestDay : least;
    }

    int soonest(int weather) {
        if (weather < 0 || weather > 2) return BAD;
        int laid = s.laid, k = 0;
        while (laid < s.stones) {
            laid = behind(weather, laid, k == 0 ? costToday() : 0);
            k++;
            if (k > 99) return NONE;
        }
        return k;
    }

    private long meanSum(int n, int k, int laid) {
        if (k == n) return laid;
        int cost = k == 0 ? costToday() : 0;
        return (10 - s.frost - s.thaw) * meanSum(n, k + 1, behind(0, laid, cost))
            + s.frost * meanSum(n, k + 1, behind(1, laid, cost))
            + s.thaw * meanSum(n, k + 1, behind(2, laid, cost));
    }

    int mean(int n, int what) {
        if (n < 0 || n > 6 || n > s.days - s.day || what < 0 || what > 1) return BAD;
        java.math.BigInteger above = java.math.BigInteger.valueOf(meanSum(n, 0, s.laid));
        java.math.BigInteger below = java.math.BigInteger.TEN.pow(n);
        java.math.BigInteger g = above.gcd(below);
        return (what == 0 ? above : below).divide(g).intValueExact();
    }

    int image() {
        kept = s.twin();
        return 1;
    }

    int restore() {
        if (kept == null) return NONE;
        s = kept.twin();
        return 1;
    }

    // ---- sheets: real rows, so that the machine's own order of faults is at hand

    private static int laneOf(Object row) {
        if (row instanceof byte[]) return 0;
        if (row instanceof short[]) return 1;
        if (row instanceof int[]) return 2;
        return 3;
    }

    private static long get(Object row, int i) {
        if (row instanceof byte[]) return ((byte[]) row)[i];
        if (row instanceof short[]) return ((short[]) row)[i];
        if (row instanceof int[]) return ((int[]) row)[i];
        return ((long[]) row)[i];
    }

    private static void set(Object row, int i, long v) {
        if (row instanceof byte[]) ((byte[]) row)[i] = (byte) v;
        else if (row instanceof short[]) ((short[]) row)[i] = (short) v;
        else if (row instanceof int[]) ((int[]) row)[i] = (int) v;
        else ((long[]) row)[i] = v;
    }

    private int fault(int sheet, int lane, long i, long n) {
        Object row = sheets[sheet];
        if (row == null) return NULL;
        if (laneOf(row) != lane) return CAST;
        if (i < 0 || n < 0 || i + n > java.lang.reflect.Array.getLength(row)) return INDEX;
        return 0;
    }

    int weather(int sheet, int lane, int i, int n, int d) {
        if (sheet < 0 || sheet > 3 || lane < 0 || lane > 3 || n < 1 || n > 8 || d < -1 || d >= n) return BAD;
        int f = fault(sheet, lane, i, n);
        if (f != 0) return f;
        if (n > s.days - s.day) return NOT;
        int all = 1;
        for (int k = 0; k < n; k++) all *= 3;
        int rows = 0, set = 0;
        for (int code = 0; code < all; code++) {
            int c = code, laid = s.laid, asked = 0;
            boolean so = true;
            for (int k = 0; k < n && so; k++, c /= 3) {
                laid = behind(c % 3, laid, k == 0 ? costToday() : 0);
                if (laid != get(sheets[sheet], i + k)) so = false;
                if (k == d) asked = 1 << c % 3;
            }
            if (so) { rows++; set |= asked; }
        }
        return d == -1 ? rows : set;
    }

    int film(int weather, int n, int sheet, int lane, int i) {
        if (weather < 0 || weather > 2 || n < 1 || n > 24 || sheet < 0 || sheet > 3 || lane < 0 || lane > 3) return BAD;
        int f = fault(sheet, lane, i, n);
        if (f != 0) return f;
        int laid = s.laid;
        for (int k = 0; k < n; k++) {
            laid = behind(weather, laid, k == 0 ? costToday() : 0);
            set(sheets[sheet], i + k, laid);
        }
        return n;
    }

    int sheet(int sheet, int lane, int n) {
        if (sheet < 0 || sheet > 3 || lane < 0 || lane > 3 || n > 24) return BAD;
        if (n < 0) return SIZE;
        sheets[sheet] = lane == 0 ? new byte[n] : lane == 1 ? new short[n] : lane == 2 ? new int[n] : new long[n];
        return n;
    }

    int drop(int sheet) {
        if (sheet < 0 || sheet > 3) return BAD;
        if (sheets[sheet] == null) return NULL;
        int n = java.lang.reflect.Array.getLength(sheets[sheet]);
        sheets[sheet] = null;
        return n;
    }

    int item(int sheet, int lane, int i, long v) {
        if (sheet < 0 || sheet > 3 || lane < 0 || lane > 3) return BAD;
        int f = fault(sheet, lane, i, 1);
        if (f != 0) return f;
        set(sheets[sheet], i, v);
        return 1;
    }

    int copy(int from, int i, int to, int j, int n) {
        if (from < 0 || from > 3 || to < 0 || to > 3) return BAD;
        if (sheets[from] == null || sheets[to] == null) return NULL;
        if (laneOf(sheets[from]) != laneOf(sheets[to])) return CAST;
        int f = fault(from, laneOf(sheets[from]), i, n);
        if (f == 0) f = fault(to, laneOf(sheets[to]), j, n);
        if (f != 0) return f;
        long[] taken = new long[n];
        for (int k = 0; k < n; k++) taken[k] = get(sheets[from], i + k);
        for (int k = 0; k < n; k++) set(sheets[to], j + k, taken[k]);
        return n;
    }
}
