import java.math.BigInteger;
import java.util.ArrayList;
import java.util.Arrays;
import java.util.HashMap;
import java.util.List;
import java.util.Map;

/**
 * The document a second time, in another way and without care for cost: VISITS by elimination over fractions,
 * CONSTANTS and NUMBERS by going through all STATES, rows of PARTS as lists, SHEETS as arrays of their own sort.
 */
final class Model {
    static final long NO = -4611686018427387904L;

    static final class Held {
        List<int[]> stations = new ArrayList<>(); // KIND, TIME of 0, TIME of 1
        int[] home = {-1, -1};
        int[] parts = {0, 0};
        long[] pay = {0, 0};
        int[][][] route = new int[2][5][5];

        Held again() {
            Held h = new Held();
            for (int[] s : stations) h.stations.add(s.clone());
            h.home = home.clone();
            h.parts = parts.clone();
            h.pay = pay.clone();
            for (int p = 0; p < 2; p++) for (int f = 0; f < 5; f++) h.route[p][f] = route[p][f].clone();
            return h;
        }
    }

    private Held net = new Held();
    private Held image = null;
    private final StringBuilder tape = new StringBuilder();
    private final Object[] sheets = new Object[4];
    private int seed = 1;
    private boolean begun = false;
    private int turns = 0;
    private final List<List<Integer>> rows = new ArrayList<>();
    private final List<int[]> people = new ArrayList<>(); // CLASS, STATION, REST
    private int[][] passed = new int[2][5];
    private final Map<String, Frac> memo = new HashMap<>();
    private int[] likeliest = null;

    Model() {
        for (int i = 0; i < 5; i++) rows.add(new ArrayList<>());
    }

    private int size() {
        return net.stations.size();
    }

    private void ends() {
        begun = false;
        turns = 0;
        people.clear();
        for (List<Integer> r : rows) r.clear();
        passed = new int[2][5];
        memo.clear();
        likeliest = null;
    }

    private static boolean in(long v, long low, long high) {
        return low <= v && v <= high;
    }

    private boolean isStation(int s) {
        return in(s, 0, size() - 1);
    }

    int station(int kind, int t0, int t1) {
        if (!in(kind, 0, 3) || !in(t0, 1, 9) || !in(t1, 1, 9)) return -2;
        if (size() == 5) return -4;
        net.stations.add(new int[] {kind, t0, t1});
        ends();
        return size() - 1;
    }

    int time(int s, int p, int t) {
        if (!isStation(s) || !in(p, 0, 1) || !in(t, 1, 9)) return -2;
        int was = net.stations.get(s)[1 + p];
        net.stations.get(s)[1 + p] = t;
        ends();
        return was;
    }

    int becomes(int s, int kind) {
        if (!isStation(s) || !in(kind, 0, 3)) return -2;
        int was = net.stations.get(s)[0];
        net.stations.get(s)[0] = kind;
        ends();
        return was;
    }

    int route(int p, int f, int t, int w) {
        if (!in(p, 0, 1) || !isStation(f) || !isStation(t) || !in(w, 0, 9)) return -2;
        int was = net.route[p][f][t];
        net.route[p][f][t] = w;
        ends();
        return was;
    }

    int home(int p, int s) {
        if (!in(p, 0, 1) || !isStation(s)) return -2;
        int was = net.home[p];
        net.home[p] = s;
        ends();
        return was;
    }

    int parts(int p, int n) {
        if (!in(p, 0, 1) || !in(n, 0, 6)) return -2;
        if (net.parts[1 - p] + n > 8) return -4;
        int was = net.parts[p];
        net.parts[p] = n;
        ends();
        return was;
    }

    long pay(int p, long v) {
        if (!in(p, 0, 1)) return NO;
        long was = net.pay[p];
        net.pay[p] = v;
        return was;
    }

    int feed(int n, int... bytes) {
        if (!in(n, 1, 5)) return -2;
        for (int b : bytes) if (!in(b, 0, 255)) return -2;
        if (tape.length() + n > 60) return -4;
        for (int i = 0; i < n; i++) tape.append((char) bytes[i]);
        return tape.length();
    }

    /** By trying all grammars' prefixes: the longest prefix that some text of CLAUSES begins with. */
    int text() {
        String t = tape.toString();
        tape.setLength(0);
        String clause = "(?:s[0-9]{3}|r[0-9]{4}|h[0-9]{2}|n[0-9]{2})";
        if (!t.matches("(?s)" + clause + "(?:;" + clause + ")*")) {
            int good = 0;
            while (good < t.length() && goesOn(t.substring(0, good + 1), clause)) good++;
            return -100 - good;
        }
        int happened = 0;
        for (String c : t.split(";")) {
            int[] d = new int[4];
            for (int i = 1; i < c.length(); i++) d[i - 1] = c.charAt(i) - '0';
            int got;
            switch (c.charAt(0)) {
                case 's': got = station(d[0], d[1], d[2]); break;
                case 'r': got = route(d[0], d[1], d[2], d[3]); break;
                case 'h': got = home(d[0], d[1]); break;
                default: got = parts(d[0], d[1]);
            }
            if (got > -2) happened++;
        }
        return happened;
    }

    private static boolean goesOn(String begin, String clause) {
        for (String end : new String[] {"", "0", "00", "000", "0000", "h00"}) {
            if ((begin + end).matches("(?s)" + clause + "(?:;" + clause + ")*")) return true;
        }
        return false;
    }

    int told(int s, int what) {
        return isStation(s) && in(what, 0, 2) ? net.stations.get(s)[what] : -2;
    }

    int taken(int s, int group) {
        if (!isStation(s) || !in(group, 0, 2)) return -2;
        int[] groups = {0, 0, 1, 2};
        return groups[net.stations.get(s)[0]] == group ? rows.get(s).size() : -13;
    }

    private boolean[] reaches(int p, int from, boolean already) {
        boolean[] got = new boolean[5];
        ArrayList<Integer> todo = new ArrayList<>();
        todo.add(from);
        if (already) got[from] = true;
        while (!todo.isEmpty()) {
            int f = todo.remove(0);
            for (int t = 0; t < size(); t++) {
                if (net.route[p][f][t] > 0 && !got[t]) {
                    got[t] = true;
                    todo.add(t);
                }
            }
        }
        return got;
    }

    private boolean goesRound(int p) {
        if (net.home[p] < 0) return false;
        boolean[] reached = reaches(p, net.home[p], true);
        for (int s = 0; s < size(); s++) {
            if (reached[s] && !reaches(p, s, false)[net.home[p]]) return false;
        }
        return true;
    }

    int of(int p, int what) {
        if (!in(p, 0, 1) || !in(what, 0, 3)) return -2;
        if (what == 0) return net.home[p];
        if (what == 1) return net.parts[p];
        if (what == 2) return goesRound(p) ? 1 : 0;
        int bits = 0;
        if (net.home[p] >= 0) {
            boolean[] reached = reaches(p, net.home[p], true);
            for (int s = 0; s < 5; s++) if (reached[s]) bits += 1 << s;
        }
        return bits;
    }

    /** The balance of each STATION that is REACHED, HOME's balance replaced by: HOME is visited once. */
    private long[] visits(int p) {
        int m = size();
        boolean[] reached = reaches(p, net.home[p], true);
        Frac[][] e = new Frac[m][m + 1];
        for (int s = 0; s < m; s++) {
            Arrays.fill(e[s], Frac.ZERO);
            e[s][s] = Frac.ONE;
            if (s == net.home[p]) {
                e[s][m] = Frac.ONE;
                continue;
            }
            if (!reached[s]) continue;
            for (int f = 0; f < m; f++) {
                if (!reached[f]) continue;
                long all = 0;
                for (int t = 0; t < m; t++) all += net.route[p][f][t];
                e[s][f] = e[s][f].minus(Frac.of(net.route[p][f][s]).over(Frac.of(all)));
            }
        }
        for (int c = 0; c < m; c++) {
            int pivot = c;
            while (e[pivot][c].isZero()) pivot++;
            Frac[] row = e[pivot];
            e[pivot] = e[c];
            e[c] = row;
            Frac first = row[c];
            for (int k = 0; k <= m; k++) row[k] = row[k].over(first);
            for (int r = 0; r < m; r++) {
                if (r == c) continue;
                Frac factor = e[r][c];
                for (int k = 0; k <= m; k++) e[r][k] = e[r][k].minus(factor.times(row[k]));
            }
        }
        BigInteger common = BigInteger.ONE;
        for (int s = 0; s < m; s++) common = common.multiply(e[s][m].below).divide(common.gcd(e[s][m].below));
        BigInteger g = BigInteger.ZERO;
        BigInteger[] whole = new BigInteger[m];
        for (int s = 0; s < m; s++) {
            whole[s] = e[s][m].above.multiply(common).divide(e[s][m].below);
            g = g.gcd(whole[s]);
        }
        long[] v = new long[m];
        for (int s = 0; s < m; s++) v[s] = whole[s].divide(g).longValueExact();
        return v;
    }

    private int time(int p, int s) {
        int[] it = net.stations.get(s);
        return it[0] == 0 ? it[1] : it[1 + p];
    }

    long visits(int p, int s, int what) {
        if (!in(p, 0, 1) || !isStation(s) || !in(what, 0, 1) || !goesRound(p)) return NO;
        long v = visits(p)[s];
        return what == 0 ? v : v * time(p, s);
    }

    int sound() {
        for (int p = 0; p < 2; p++) {
            if (net.parts[p] == 0) continue;
            if (!goesRound(p)) return 0;
            for (int s = 0; s < size(); s++) if (visits(p, s, 1) > 20) return 0;
        }
        return 1;
    }

    private long[][] demands() {
        long[][] d = new long[2][size()];
        for (int p = 0; p < 2; p++) {
            if (net.parts[p] == 0) continue;
            long[] v = visits(p);
            for (int s = 0; s < size(); s++) d[p][s] = v[s] * time(p, s);
        }
        return d;
    }

    private static void spread(int n, int m, int at, int[] now, List<int[]> all) {
        if (at == m) {
            if (n == 0) all.add(now.clone());
            return;
        }
        for (int k = n; k >= 0; k--) {
            now[at] = k;
            spread(n - k, m, at + 1, now, all);
        }
        now[at] = 0;
    }

    private static List<int[]> spreads(int n, int m) {
        List<int[]> all = new ArrayList<>();
        spread(n, m, 0, new int[m], all);
        return all;
    }

    private static BigInteger factorial(int n) {
        BigInteger f = BigInteger.ONE;
        for (int i = 2; i <= n; i++) f = f.multiply(BigInteger.valueOf(i));
        return f;
    }

    /** Times both factorials 6! and 6!, so that it is whole. */
    private BigInteger weight(int[] a, int[] b, long[][] d) {
        BigInteger w = BigInteger.ONE;
        for (int s = 0; s < a.length; s++) {
            w = w.multiply(BigInteger.valueOf(d[0][s]).pow(a[s])).multiply(BigInteger.valueOf(d[1][s]).pow(b[s]));
            if (net.stations.get(s)[0] != 3) w = w.multiply(factorial(a[s] + b[s]));
        }
        BigInteger under = BigInteger.ONE;
        for (int s = 0; s < a.length; s++) under = under.multiply(factorial(a[s])).multiply(factorial(b[s]));
        w = w.multiply(factorial(6)).multiply(factorial(6));
        if (w.mod(under).signum() != 0) throw new IllegalStateException("not whole");
        return w.divide(under);
    }

    private static Frac over66(BigInteger w) {
        BigInteger rest = factorial(6).multiply(factorial(6));
        Frac f = Frac.ZERO;
        // in pieces, as a Frac is made of longs
        BigInteger piece = BigInteger.ONE.shiftLeft(40);
        BigInteger[] q = w.divideAndRemainder(piece);
        BigInteger[] r = q[0].divideAndRemainder(piece);
        Frac p = Frac.of(piece.longValueExact());
        f = Frac.of(r[0].longValueExact()).times(p).plus(Frac.of(r[1].longValueExact())).times(p);
        f = f.plus(Frac.of(q[1].longValueExact()));
        return f.over(Frac.of(rest.longValueExact()));
    }

    private Frac constant(int n0, int n1, int m, long[][] d) {
        String key = n0 + " " + n1 + " " + m + " " + Arrays.deepToString(d);
        Frac known = memo.get(key);
        if (known != null) return known;
        BigInteger sum = BigInteger.ZERO;
        List<int[]> second = spreads(n1, m);
        for (int[] a : spreads(n0, m)) for (int[] b : second) sum = sum.add(weight(a, b, d));
        Frac f = over66(sum);
        memo.put(key, f);
        return f;
    }

    long constant(int n0, int n1, int m, int line) {
        if (!in(n0, 0, 6) || !in(n1, 0, 6) || !in((long) n0 + n1, 0, 8) || !in(m, 0, size()) || !in(line, 0, 1)) return NO;
        if (sound() == 0 || n0 > 0 && net.parts[0] == 0 || n1 > 0 && net.parts[1] == 0) return NO;
        return constant(n0, n1, m, demands()).told(line);
    }

    private long[] numbers(int sheet) {
        Object o = sheets[sheet];
        long[] v = new long[java.lang.reflect.Array.getLength(o)];
        for (int i = 0; i < v.length; i++) v[i] = java.lang.reflect.Array.getLong(o, i);
        return v;
    }

    long odds(int sheet, int line) {
        if (!in(sheet, 0, 3) || !in(line, 0, 1) || sound() == 0 || sheets[sheet] == null) return NO;
        long[] v = numbers(sheet);
        if (v.length != 2 * size()) return NO;
        int[][] state = new int[2][size()];
        for (int p = 0; p < 2; p++) {
            BigInteger all = BigInteger.ZERO;
            for (int s = 0; s < size(); s++) {
                long k = v[p * size() + s];
                if (k < 0) return NO;
                if (k > 0 && (net.home[p] < 0 || !goesRound(p) || visits(p)[s] == 0)) return NO;
                all = all.add(BigInteger.valueOf(k));
                state[p][s] = (int) k;
            }
            if (!all.equals(BigInteger.valueOf(net.parts[p]))) return NO;
        }
        long[][] d = demands();
        return over66(weight(state[0], state[1], d)).over(constant(net.parts[0], net.parts[1], size(), d)).told(line);
    }

    private void findLikeliest() {
        if (likeliest != null) return;
        long[][] d = demands();
        BigInteger best = BigInteger.valueOf(-1);
        List<int[]> second = spreads(net.parts[1], size());
        for (int[] a : spreads(net.parts[0], size())) {
            for (int[] b : second) {
                BigInteger w = weight(a, b, d);
                int[] both = new int[2 * size()];
                System.arraycopy(a, 0, both, 0, size());
                System.arraycopy(b, 0, both, size(), size());
                int c = w.compareTo(best);
                if (c > 0 || c == 0 && Arrays.compare(both, likeliest) > 0) {
                    best = w;
                    likeliest = both;
                }
            }
        }
    }

    int likely(int p, int s) {
        if (!in(p, 0, 1) || !isStation(s)) return -2;
        if (sound() == 0) return -3;
        findLikeliest();
        return likeliest[p * size() + s];
    }

    int film(int sheet) {
        if (!in(sheet, 0, 3)) return -2;
        if (sound() == 0) return -3;
        findLikeliest();
        sheets[sheet] = likeliest.clone();
        return likeliest.length;
    }

    private Frac rate(int p, int n0, int n1, long[][] d) {
        if ((p == 0 ? n0 : n1) == 0) return Frac.ZERO;
        Frac above = p == 0 ? constant(n0 - 1, n1, size(), d) : constant(n0, n1 - 1, size(), d);
        return above.over(constant(n0, n1, size(), d));
    }

    private Frac rate(int p) {
        return rate(p, net.parts[0], net.parts[1], demands());
    }

    long rate(int p, int what, int line) {
        if (!in(p, 0, 1) || !in(what, 0, 4) || !in(line, 0, 1) || sound() == 0) return NO;
        int n = net.parts[p];
        if (what == 0) return rate(p).told(line);
        if (what == 1) return rate(p, p == 0 ? n : 0, p == 1 ? n : 0, demands()).told(line);
        if (n == 0) return NO;
        if (what == 2) {
            if (n == 6 || net.parts[0] + net.parts[1] == 8) return NO;
            return rate(p, net.parts[0] + (p == 0 ? 1 : 0), net.parts[1] + (p == 1 ? 1 : 0), demands()).told(line);
        }
        long[] d = demands()[p];
        long atNoWalk = 0, atWalk = 0, most = 0;
        for (int s = 0; s < size(); s++) {
            if (net.stations.get(s)[0] == 3) atWalk += d[s];
            else {
                atNoWalk += d[s];
                most = Math.max(most, d[s]);
            }
        }
        if (what == 4) return Frac.of(n).over(Frac.of(n * atNoWalk + atWalk)).told(line);
        Frac limit = Frac.of(n).over(Frac.of(atNoWalk + atWalk));
        if (most > 0) {
            Frac first = Frac.ONE.over(Frac.of(most));
            if (first.compareTo(limit) < 0) limit = first;
        }
        return limit.told(line);
    }

    private Frac number(int p, int s) {
        long[][] d = demands();
        String key = "number " + p + " " + s;
        if (memo.containsKey(key)) return memo.get(key);
        BigInteger sum = BigInteger.ZERO;
        List<int[]> second = spreads(net.parts[1], size());
        for (int[] a : spreads(net.parts[0], size())) {
            for (int[] b : second) {
                int k = p == 0 ? a[s] : b[s];
                if (k > 0) sum = sum.add(weight(a, b, d).multiply(BigInteger.valueOf(k)));
            }
        }
        Frac f = over66(sum).over(constant(net.parts[0], net.parts[1], size(), d));
        memo.put(key, f);
        return f;
    }

    long mean(int p, int s, int what, int line) {
        if (!in(p, 0, 1) || !isStation(s) || !in(what, 0, 2) || !in(line, 0, 1) || sound() == 0) return NO;
        Frac passes = net.parts[p] == 0 ? Frac.ZERO : Frac.of(visits(p)[s]).times(rate(p));
        if (what == 0) return passes.told(line);
        if (what == 1) return number(p, s).told(line);
        return passes.isZero() ? NO : number(p, s).over(passes).told(line);
    }

    private Frac busy(int s) {
        long[][] d = demands();
        return Frac.of(d[0][s]).times(rate(0)).plus(Frac.of(d[1][s]).times(rate(1)));
    }

    long busy(int s, int line) {
        if (!isStation(s) || !in(line, 0, 1) || net.stations.get(s)[0] == 3 || sound() == 0) return NO;
        return busy(s).told(line);
    }

    int narrow() {
        if (sound() == 0) return -3;
        int best = -1;
        for (int s = size() - 1; s >= 0; s--) {
            if (net.stations.get(s)[0] == 3) continue;
            if (best < 0 || busy(s).compareTo(busy(best)) >= 0) best = s;
        }
        return best;
    }

    int swift(int p) {
        if (!in(p, 0, 1)) return -2;
        if (sound() == 0 || net.parts[p] == 0) return -3;
        int best = -1;
        Frac most = null;
        for (int s = 0; s < size(); s++) {
            int[] it = net.stations.get(s);
            int which = it[0] == 0 ? 1 : 1 + p;
            if (it[which] < 2) continue;
            it[which]--;
            Frac r = rate(p);
            it[which]++;
            if (most == null || r.compareTo(most) > 0) {
                best = s;
                most = r;
            }
        }
        return best;
    }

    private void come(int one, int s) {
        rows.get(s).add(one);
        people.get(one)[1] = s;
        people.get(one)[2] = time(people.get(one)[0], s);
    }

    int begin() {
        if (sound() == 0) return -3;
        Map<String, Frac> keep = new HashMap<>(memo);
        int[] also = likeliest;
        ends();
        memo.putAll(keep);
        likeliest = also;
        begun = true;
        for (int p = 0; p < 2; p++) {
            for (int i = 0; i < net.parts[p]; i++) {
                people.add(new int[] {p, 0, 0});
                come(people.size() - 1, net.home[p]);
            }
        }
        return people.size();
    }

    private boolean worked(int one) {
        return --people.get(one)[2] == 0;
    }

    int turn(int n) {
        if (!in(n, 1, 60)) return -2;
        if (!begun) return -3;
        int all = 0;
        for (int k = 0; k < n; k++) {
            List<Integer> gone = new ArrayList<>();
            for (int s = 0; s < size(); s++) {
                List<Integer> row = rows.get(s);
                if (row.isEmpty()) continue;
                int kind = net.stations.get(s)[0];
                List<Integer> served = new ArrayList<>();
                if (kind == 0 || kind == 2) served.add(row.get(0));
                else if (kind == 1) served.add(row.get(row.size() - 1));
                else served.addAll(row);
                for (Integer one : served) {
                    if (worked(one)) {
                        row.remove(one);
                        gone.add(one);
                        passed[people.get(one)[0]][s]++;
                    } else if (kind == 2) {
                        row.remove(one);
                        row.add(one);
                    }
                }
            }
            for (int one : gone) {
                int[] it = people.get(one);
                int[] w = net.route[it[0]][it[1]];
                seed = seed * 1103515245 + 12345;
                int draw = ((seed >> 16) & 0xffff) % Arrays.stream(w).sum();
                int to = 0;
                while (draw >= w[to]) draw -= w[to++];
                come(one, to);
            }
            all += gone.size();
            turns++;
        }
        return all;
    }

    int where(int one, int what) {
        if (!in(what, 0, 2)) return -2;
        if (!in(one, 0, people.size() - 1)) return -12;
        int[] it = people.get(one);
        return what == 2 ? rows.get(it[1]).indexOf(one) : it[1 + what];
    }

    int stands(int s, int i) {
        if (!isStation(s)) return -2;
        return in(i, 0, rows.get(s).size() - 1) ? rows.get(s).get(i) : -1;
    }

    int passed(int p, int s) {
        return in(p, 0, 1) && isStation(s) ? passed[p][s] : -2;
    }

    long earned() {
        BigInteger sum = BigInteger.ZERO;
        for (int p = 0; p < 2; p++) {
            BigInteger product = net.home[p] < 0 ? BigInteger.ZERO
                : BigInteger.valueOf(net.pay[p]).multiply(BigInteger.valueOf(passed[p][net.home[p]]));
            if (product.bitLength() > 63) return NO;
            sum = sum.add(product);
        }
        return sum.bitLength() > 63 ? NO : sum.longValueExact();
    }

    int seed(int v) {
        int was = seed;
        seed = v;
        return was;
    }

    int image() {
        image = net.again();
        return size();
    }

    int back() {
        if (image == null) return -3;
        net = image.again();
        ends();
        return size();
    }

    int count(int what) {
        int above = 0;
        for (int[][] p : net.route) for (int[] f : p) for (int w : f) if (w > 0) above++;
        int[] all = {size(), net.parts[0] + net.parts[1], above, people.size(), turns, tape.length()};
        return in(what, 0, 5) ? all[what] : -2;
    }

    int sheet(int sheet, int sort, int n) {
        if (!in(sheet, 0, 3) || !in(sort, -1, 2)) return -2;
        if (sort == -1) {
            sheets[sheet] = null;
            return 1;
        }
        if (n > 40) return -2;
        if (n < 0) return -14;
        sheets[sheet] = sort == 0 ? new long[n] : sort == 1 ? new int[n] : new short[n];
        return 1;
    }

    int put(int sheet, int i, long v) {
        if (!in(sheet, 0, 3)) return -2;
        Object o = sheets[sheet];
        if (o == null) return -11;
        if (!in(i, 0, numbers(sheet).length - 1)) return -12;
        if (o instanceof long[]) ((long[]) o)[i] = v;
        else if (o instanceof int[]) ((int[]) o)[i] = (int) v;
        else ((short[]) o)[i] = (short) v;
        return 1;
    }

    long item(int sheet, int i) {
        if (!in(sheet, 0, 3) || sheets[sheet] == null || !in(i, 0, numbers(sheet).length - 1)) return NO;
        return numbers(sheet)[i];
    }

    int copy(int sheet, int i, int other, int j, int n) {
        if (!in(sheet, 0, 3) || !in(other, 0, 3)) return -2;
        if (sheets[sheet] == null || sheets[other] == null) return -11;
        if (sheets[sheet].getClass() != sheets[other].getClass()) return -13;
        if (i < 0 || j < 0 || n < 0) return -12;
        if ((long) i + n > numbers(sheet).length || (long) j + n > numbers(other).length) return -12;
        System.arraycopy(sheets[sheet], i, sheets[other], j, n);
        return n;
    }

    int lay(int sheet, int p, int s, int sort, int from) {
        if (!in(sheet, 0, 3) || !in(p, 0, 1) || !isStation(s) || !in(sort, 0, 2)) return -2;
        Object o = sheets[sheet];
        if (o != null && (o instanceof long[] ? 0 : o instanceof int[] ? 1 : 2) != sort) return -13;
        if (o == null) return -11;
        long[] v = numbers(sheet);
        if (from < 0 || (long) from + size() > v.length) return -12;
        for (int t = 0; t < size(); t++) {
            BigInteger k = BigInteger.valueOf(v[from + t]).abs().mod(BigInteger.TEN);
            net.route[p][s][t] = k.intValueExact();
        }
        ends();
        return size();
    }
}
