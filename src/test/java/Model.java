import java.math.BigInteger;
import java.util.ArrayList;
import java.util.List;
import java.util.function.IntPredicate;
import java.util.function.ToIntFunction;

/**
 * A second reading of the document, written without a look at the class: slow, with a fresh copy for
 * each thought, lines in doubles and ways by search, so that a slip in one of the two shows.
 */
public final class Model {
    static final class House {
        char kind;
        int figure;
        int cell;
        int wicks = 20;
        boolean called;
        int more;

        House(char kind, int figure, int cell) {
            this.kind = kind;
            this.figure = figure;
            this.cell = cell;
        }

        House copy() {
            House h = new House(kind, figure, cell);
            h.wicks = wicks;
            h.called = called;
            h.more = more;
            return h;
        }

        static int candle(char kind, int figure) {
            switch (kind) {
                case 'c': return 1;
                case 't': return candle('c', figure) + figure / 2;
                case 's': return candle('c', figure);
                case 'l': return 0;
                case 'm': return candle('t', figure) + 2;
                default: return candle('s', figure);
            }
        }

        static boolean sleeps(char kind, int figure, int night) {
            switch (kind) {
                case 's': return night % (2 + figure) == 0;
                case 'l': return sleeps('s', figure, night);
                case 'm': return night % 2 == 1;
                case 'o': return sleeps('s', figure, night) || night % 3 == 0;
                default: return false;
            }
        }

        static int burns(char kind) {
            switch (kind) {
                case 't': return burns('c') + 1;
                case 'm': return burns('t');
                case 'o': return burns('s') + 1;
                default: return 1;
            }
        }
    }

    static final class State {
        int[] height = new int[21];
        List<House> houses = new ArrayList<>();
        int fog;
        int night;

        State copy() {
            State s = new State();
            s.height = height.clone();
            for (House h : houses) {
                s.houses.add(h.copy());
            }
            s.fog = fog;
            s.night = night;
            return s;
        }

        int eye(int i) {
            House h = houses.get(i);
            return height[h.cell] + House.candle(h.kind, h.figure) + h.more;
        }

        boolean lit(int i) {
            House h = houses.get(i);
            return h.wicks >= House.burns(h.kind) && (h.called || !House.sleeps(h.kind, h.figure, night));
        }

        boolean sight(int a, int eyeA, int b, int eyeB) {
            if (Math.abs(a - b) > 20 - 2 * fog) {
                return false;
            }
            for (int c = Math.min(a, b) + 1; c < Math.max(a, b); c++) {
                double line = eyeA + (eyeB - eyeA) * (double) (c - a) / (b - a);
                if (height[c] > line - 1e-9) {
                    return false;
                }
            }
            return true;
        }

        boolean sees(int i, int j) {
            return sight(houses.get(i).cell, eye(i), houses.get(j).cell, eye(j));
        }

        boolean seesSea(int i) {
            return sight(houses.get(i).cell, eye(i), 20, 0);
        }

        boolean hangs(int i) {
            return hangs(i, new boolean[houses.size()]);
        }

        boolean hangs(int i, boolean[] asked) {
            if (asked[i] || !lit(i)) {
                return false;
            }
            asked[i] = true;
            if (seesSea(i)) {
                return true;
            }
            for (int j = 0; j < houses.size(); j++) {
                if (j != i && sees(i, j) && hangs(j, asked)) {
                    return true;
                }
            }
            return false;
        }

        int bits(IntPredicate p) {
            int bits = 0;
            for (int i = 0; i < houses.size(); i++) {
                if (p.test(i)) {
                    bits += 1 << i;
                }
            }
            return bits;
        }

        int hanging() {
            return bits(this::hangs);
        }

        int hangCount() {
            return Integer.bitCount(hanging());
        }

        State after(int n) {
            State s = copy();
            for (int k = 0; k < n; k++) {
                int lit = s.bits(s::lit);
                for (int i = 0; i < s.houses.size(); i++) {
                    if ((lit >> i & 1) == 1) {
                        s.houses.get(i).wicks -= House.burns(s.houses.get(i).kind);
                    }
                }
                s.night++;
            }
            return s;
        }

        int together(int n) {
            int sum = 0;
            for (int k = 0; k <= n; k++) {
                sum += after(k).hangCount();
            }
            return sum;
        }

        int wicks() {
            int sum = 0;
            for (House h : houses) {
                sum += h.wicks;
            }
            return sum;
        }
    }

    private State now = new State();
    private State image;
    private final List<Integer> row = new ArrayList<>();
    private String text = "";
    private final int[] refusals = new int[7];

    private int no(int refusal) {
        refusals[-refusal]++;
        return refusal;
    }

    private boolean noHouse(int h) {
        return h < 0 || h >= now.houses.size();
    }

    public int letter(int c) {
        if (c < 0) return no(-4);
        if (c > 255 || text.length() == 96) return no(-6);
        text += (char) c;
        return text.length();
    }

    private static final String[] FORMS = {"c[0-9]{3};", "h[ctslmo][0-9]{3};", "m[0-9]{3};", "w[0-9]{3};",
        "u[0-9];", "f[0-9];", "n[0-9]{2};"};

    private static final String[] SAMPLES = {"c000;", "hc000;", "m000;", "w000;", "u0;", "f0;", "n01;"};

    private static String statementAt(String t) {
        for (String form : FORMS) {
            for (int end = 1; end <= t.length(); end++) {
                if (t.substring(0, end).matches(form)) return t.substring(0, end);
            }
        }
        return null;
    }

    /** Whether some text that begins so is a statement: its letters are put over a sample's first ones. */
    private static boolean mayBegin(String t) {
        for (String sample : SAMPLES) {
            if (t.length() <= sample.length() && statementAt(t + sample.substring(t.length())) != null) return true;
        }
        return false;
    }

    public int land() {
        String t = text;
        text = "";
        List<String> statements = new ArrayList<>();
        int at = 0;
        while (at < t.length()) {
            String s = statementAt(t.substring(at));
            if (s == null) break;
            statements.add(s);
            at += s.length();
        }
        if (at < t.length() || statements.isEmpty()) {
            int good = 0;
            while (at + good < t.length() && mayBegin(t.substring(at, at + good + 1))) good++;
            return -1000 - at - good;
        }
        State s = now.copy();
        int place = 0;
        for (String one : statements) {
            if (!apply(s, one)) return -2000 - place;
            place += one.length();
            if (one.charAt(0) == 'n') s = s.after(Integer.parseInt(one.substring(1, 3)));
        }
        now = s;
        return statements.size();
    }

    private static boolean apply(State s, String one) {
        String digits = one.replaceAll("[^0-9]", "");
        int number = Integer.parseInt(digits);
        switch (one.charAt(0)) {
            case 'c':
                if (number / 10 > 19) return false;
                s.height[number / 10] = number % 10;
                return true;
            case 'h':
                if (number % 100 > 19 || s.houses.size() == 7) return false;
                s.houses.add(new House(one.charAt(1), number / 100, number % 100));
                return true;
            case 'm':
                if (number / 100 >= s.houses.size() || number % 100 > 19) return false;
                s.houses.get(number / 100).cell = number % 100;
                return true;
            case 'w':
                if (number / 100 >= s.houses.size()) return false;
                House h = s.houses.get(number / 100);
                h.wicks = Math.min(99, h.wicks + number % 100);
                return true;
            case 'u':
                if (number >= s.houses.size()) return false;
                s.houses.get(number).called ^= true;
                return true;
            case 'f':
                s.fog = number;
                return true;
            default:
                return number >= 1 && number <= 60 && s.night + number <= 999;
        }
    }

    public int house(int house, int what) {
        if (noHouse(house)) return no(-1);
        if (what < 0 || what > 7) return no(-2);
        House h = now.houses.get(house);
        return new int[] {"ctslmo".indexOf(h.kind), h.figure, h.cell, h.wicks, h.called ? 1 : 0,
            now.lit(house) ? 1 : 0, now.eye(house), House.burns(h.kind)}[what];
    }

    public int height(int cell) {
        return cell < 0 || cell > 19 ? no(-1) : now.height[cell];
    }

    public int heaps(int cell, int v) {
        if (cell < 0 || cell > 19) return no(-1);
        if (v < 0) return no(-4);
        if (v > 9) return no(-6);
        int was = now.height[cell];
        now.height[cell] = v;
        return was;
    }

    public int moves(int house, int cell) {
        if (noHouse(house) || cell < 0 || cell > 19) return no(-1);
        int was = now.houses.get(house).cell;
        now.houses.get(house).cell = cell;
        return was;
    }

    public int gives(int house, int v) {
        if (noHouse(house)) return no(-1);
        if (v < 0) return no(-4);
        if (v > 99) return no(-6);
        House h = now.houses.get(house);
        h.wicks = Math.min(99, h.wicks + v);
        return h.wicks;
    }

    public int calls(int house) {
        if (noHouse(house)) return no(-1);
        now.houses.get(house).called = !now.houses.get(house).called;
        return now.houses.get(house).called ? 1 : 0;
    }

    public int fog(int v) {
        if (v < 0) return no(-4);
        if (v > 9) return no(-6);
        int was = now.fog;
        now.fog = v;
        return was;
    }

    public int turn(int house, int kind, int figure) {
        if (noHouse(house)) return no(-1);
        if (kind < 0 || kind > 5) return no(-2);
        if (figure < 0) return no(-4);
        if (figure > 9) return no(-6);
        House h = now.houses.get(house);
        int was = 10 * "ctslmo".indexOf(h.kind) + h.figure;
        h.kind = "ctslmo".charAt(kind);
        h.figure = figure;
        return was;
    }

    public int nights(int n) {
        if (n < 1) return no(-4);
        if (n > 60 || now.night + n > 999) return no(-6);
        now = now.after(n);
        return now.hangCount();
    }

    private int bounded(int n, int most, ToIntFunction<Integer> answer) {
        if (n < 0) return no(-4);
        if (n > most) return no(-6);
        return answer.applyAsInt(n);
    }

    public int litThen(int n) {
        return bounded(n, 60, k -> now.after(k).bits(now.after(k)::lit));
    }

    public int hangThen(int n) {
        return bounded(n, 60, k -> now.after(k).hanging());
    }

    public int wicksThen(int house, int n) {
        if (noHouse(house)) return no(-1);
        return bounded(n, 60, k -> now.after(k).houses.get(house).wicks);
    }

    private int darkOf(int house) {
        for (int k = 0; k <= 60; k++) {
            if (!now.after(k).hangs(house)) return k;
        }
        return -9;
    }

    public int dark(int house) {
        return noHouse(house) ? no(-1) : darkOf(house);
    }

    public int first(int what) {
        if (what == 1) {
            for (int k = 0; k <= 60; k++) {
                if (now.after(k).hangCount() == now.houses.size()) return k;
            }
            return -9;
        }
        if (what != 0) return no(-2);
        int best = -9;
        for (int i = 0; i < now.houses.size(); i++) {
            if (now.hangs(i) && darkOf(i) != -9 && (best == -9 || darkOf(i) < darkOf(best))) best = i;
        }
        return best;
    }

    public int sees(int house) {
        if (noHouse(house)) return no(-1);
        return now.bits(j -> j != house && now.sees(house, j)) + (now.seesSea(house) ? 128 : 0);
    }

    public int hill(int one, int other) {
        if (noHouse(one) || noHouse(other) || one == other) return no(-1);
        int a = now.houses.get(one).cell;
        int b = now.houses.get(other).cell;
        int best = -9;
        double most = 0;
        for (int c = Math.min(a, b) + 1; c < Math.max(a, b); c++) {
            double line = now.eye(one) + (now.eye(other) - now.eye(one)) * (double) (c - a) / (b - a);
            double above = now.height[c] - line;
            if (best == -9 || above > most + 1e-9) {
                best = c;
                most = above;
            }
        }
        return best;
    }

    public int leastEye(int house) {
        if (noHouse(house)) return no(-1);
        int cell = now.houses.get(house).cell;
        for (int e = 0; e <= 30; e++) {
            if (now.sight(cell, now.height[cell] + e, 20, 0)) return e;
        }
        return -9;
    }

    private int hangingWithout(int house) {
        State s = now.copy();
        s.houses.get(house).wicks = 0;
        return s.hanging();
    }

    public int cut(int what) {
        if (what < 0 || what > 2) return no(-2);
        int all = now.hanging();
        if (what == 2) return now.bits(i -> (all & ~hangingWithout(i) & ~(1 << i)) != 0);
        int best = -9;
        int least = -9;
        for (int i = 0; i < now.houses.size(); i++) {
            if (now.lit(i) && (best == -9 || Integer.bitCount(hangingWithout(i)) < least)) {
                best = i;
                least = Integer.bitCount(hangingWithout(i));
            }
        }
        return what == 0 ? best : least;
    }

    /** The choice 0 .. n - 1 of most weight, the least of several, if it weighs more than so much; else -9. */
    private static int best(int n, int moreThan, ToIntFunction<Integer> weight) {
        int best = -9;
        int most = moreThan;
        for (int i = 0; i < n; i++) {
            int w = weight.applyAsInt(i);
            if (w > most) {
                best = i;
                most = w;
            }
        }
        return best;
    }

    private int built(int cell) {
        State s = now.copy();
        s.houses.add(new House('c', 0, cell));
        return s.hangCount();
    }

    public int build(int what) {
        if (what != 0 && what != 1) return no(-2);
        int cell = best(20, -1, this::built);
        return what == 0 ? cell : built(cell);
    }

    public int fell() {
        return best(20, now.hangCount(), c -> {
            State s = now.copy();
            s.height[c] = 0;
            return s.hangCount();
        });
    }

    public int raise() {
        return best(now.houses.size(), now.hangCount(), i -> {
            State s = now.copy();
            s.houses.get(i).more = 3;
            return s.hangCount();
        });
    }

    private int togetherCalled(int some, int n) {
        State s = now.copy();
        for (int i = 0; i < s.houses.size(); i++) {
            s.houses.get(i).called = (some >> i & 1) == 1;
        }
        int sum = 0;
        for (int k = 0; k <= n; k++) {
            sum += s.hangCount();
            s = s.after(1);
        }
        return sum;
    }

    public int call(int n) {
        return bounded(n, 12, k -> {
            int all = (1 << now.houses.size()) - 1;
            int goal = togetherCalled(all, k);
            for (int size = 0; size <= now.houses.size(); size++) {
                for (int some = 0; some <= all; some++) {
                    if (Integer.bitCount(some) == size && togetherCalled(some, k) >= goal) return some;
                }
            }
            return all;
        });
    }

    /** Houses on the shortest way from one to the sea, past none of those on the way so far; 99 none. */
    private int way(int house, int onWay) {
        if (!now.hangs(house)) return 99;
        if (now.seesSea(house)) return 1;
        int least = 99;
        for (int j = 0; j < now.houses.size(); j++) {
            if (((onWay | 1 << house) >> j & 1) == 0 && now.sees(house, j)) {
                least = Math.min(least, 1 + way(j, onWay | 1 << house));
            }
        }
        return least;
    }

    public int news(int house, int what) {
        if (noHouse(house)) return no(-1);
        if (what != 0 && what != 1) return no(-2);
        int length = way(house, 0);
        if (length >= 99) return -9;
        if (what == 0) return length;
        if (length == 1) return 7;
        for (int j = 0; j < now.houses.size(); j++) {
            if (j != house && now.sees(house, j) && way(j, 0) == length - 1) return j;
        }
        return -9;
    }

    public int farthest() {
        return best(now.houses.size(), 0, i -> way(i, 0) >= 99 ? 0 : way(i, 0));
    }

    public int spend(int n) {
        return bounded(n, 60, k -> now.wicks() - now.after(k).wicks());
    }

    public int share(int n) {
        return bounded(n, 30, k -> best(now.houses.size(), now.together(k), i -> {
            State s = now.copy();
            s.houses.get(i).wicks++;
            return s.together(k);
        }));
    }

    public int longest(int n) {
        return bounded(n, 60, k -> {
            int most = 0;
            for (int i = 0; i <= k; i++) most = Math.max(most, now.after(i).hangCount());
            return most;
        });
    }

    public int fogged() {
        for (int f = 0; f <= 9; f++) {
            State s = now.copy();
            s.fog = f;
            if (s.hanging() == 0) return f;
        }
        return -9;
    }

    public int highest() {
        return best(20, -1, c -> now.height[c]);
    }

    private int gain(int who, int a, boolean calledA, int b, boolean calledB) {
        State s = now.copy();
        s.houses.get(a).called = calledA;
        s.houses.get(b).called = calledB;
        int sum = 0;
        for (int k = 0; k < 6; k++) {
            State then = s.after(k);
            if (then.hangs(who)) sum += 2;
            if (then.houses.get(who).called) sum -= 1;
        }
        return sum;
    }

    public int two(int a, int b) {
        if (noHouse(a) || noHouse(b) || a == b) return no(-1);
        for (int i = 0; i < 2; i++) {
            for (int j = 0; j < 2; j++) {
                boolean ci = i == 1;
                boolean cj = j == 1;
                if (gain(a, a, !ci, b, cj) <= gain(a, a, ci, b, cj)
                    && gain(b, a, ci, b, !cj) <= gain(b, a, ci, b, cj)) return 10 * i + j;
            }
        }
        return -9;
    }

    private static long part(BigInteger above, BigInteger below, int part) {
        BigInteger d = above.gcd(below);
        return (part == 0 ? above : below).divide(d).longValueExact();
    }

    public long mist(int house, int n, int t, int part) {
        if (noHouse(house)) return 4000000000000000000L - no(-1);
        if (n < 0 || t < 2) return 4000000000000000000L - no(-4);
        if (n > 7 || t > 20) return 4000000000000000000L - no(-6);
        if (part != 0 && part != 1) return 4000000000000000000L - no(-2);
        BigInteger above = BigInteger.ONE;
        BigInteger below = BigInteger.ONE;
        for (int k = 0; k < n; k++) {
            State clear = now.after(k);
            State foggy = clear.copy();
            foggy.fog = 9;
            int good = (clear.hangs(house) ? t - 1 : 0) + (foggy.hangs(house) ? 1 : 0);
            above = above.multiply(BigInteger.valueOf(good));
            below = below.multiply(BigInteger.valueOf(t));
        }
        return part(above, below, part);
    }

    public long mean(int part) {
        if (part != 0 && part != 1) return 4000000000000000000L - no(-2);
        int sum = 0;
        for (int h : now.height) sum += h;
        return part(BigInteger.valueOf(sum), BigInteger.valueOf(20), part);
    }

    private boolean fits(State s) {
        for (int k = 0; k < row.size(); k++) {
            if (s.after(k).hangCount() != row.get(k)) return false;
        }
        return true;
    }

    public int whoSlept() {
        return now.bits(i -> {
            State s = now.copy();
            s.houses.get(i).wicks = 0;
            return fits(s);
        });
    }

    public int whatIs(int house, int what) {
        if (noHouse(house)) return no(-1);
        if (what != 0 && what != 1) return no(-2);
        int bits = 0;
        for (int i = 0; i < (what == 0 ? 6 : 10); i++) {
            State s = now.copy();
            if (what == 0) s.houses.get(house).kind = "ctslmo".charAt(i);
            if (what == 1) s.houses.get(house).figure = i;
            if (fits(s)) bits |= 1 << i;
        }
        return bits;
    }

    public int row(int v) {
        if (v < 0) return no(-4);
        if (v > 99 || row.size() == 16) return no(-6);
        row.add(v);
        return row.size();
    }

    public int judge() {
        int wrong = -9;
        for (int c = row.size() - 1; c >= 0; c--) {
            if (row.get(c) != now.height[c]) wrong = c;
        }
        row.clear();
        return wrong;
    }

    public int clear() {
        int had = row.size();
        row.clear();
        return had;
    }

    public int lots(int n, int z, int what) {
        if (n < 1) return no(-4);
        if (n > 20) return no(-6);
        if (what != 0 && what != 1) return no(-2);
        int[] seed = {z};
        int sum = 0;
        for (int i = 0; i < n; i++) {
            State s = now.copy();
            for (House h : s.houses) {
                h.cell = draw(seed, 20);
                h.wicks = draw(seed, 5);
            }
            s = s.after(4);
            sum += what == 0 ? s.hangCount() : s.wicks();
        }
        return sum;
    }

    private static int draw(int[] seed, int m) {
        seed[0] = (int) (seed[0] * 1664525L + 1013904223L);
        long positive = seed[0] < 0 ? seed[0] + (1L << 31) : seed[0];
        return (int) (positive / 256 % m);
    }

    public int image() {
        image = now.copy();
        return image.night;
    }

    public int on() {
        if (image == null) return no(-3);
        now = image.copy();
        return now.night;
    }

    public int count(int what) {
        switch (what) {
            case 0: return now.houses.size();
            case 1: return now.night;
            case 2: return now.fog;
            case 3: return now.bits(now::lit);
            case 4: return now.hanging();
            case 5: return now.wicks();
            case 6: return row.size();
            case 7: return text.length();
            default: return what >= 11 && what <= 16 ? refusals[what - 10] : -9;
        }
    }
}
