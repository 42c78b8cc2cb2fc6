import java.util.Random;

/** Many runs of calls, each answered by the class and by the model: promises 1 to 39. */
public final class ModelTest {
    private static final long[] ODD = {Long.MIN_VALUE, Long.MAX_VALUE, Integer.MIN_VALUE, Integer.MAX_VALUE, -1, 0, 1, 60, 61,
        PalletRounds.NO, 1L << 40, 255, 256, 32768, 65535};
    private final Random random;
    private final Pair pair;

    private ModelTest(Due due, long seed) {
        random = new Random(seed);
        pair = new Pair(due);
    }

    private int upTo(int n) {
        return random.nextInt(n + 1);
    }

    /** Mostly in bounds, at times one beyond. */
    private int near(int low, int high) {
        return random.nextInt(25) == 0 ? (random.nextBoolean() ? low - 1 : high + 1) : low + upTo(high - low);
    }

    private int station() {
        int size = pair.x.count(0);
        return near(0, Math.max(0, size - 1));
    }

    /** A ring of all STATIONS or of some, with detours: often SOUND. */
    private void buildNet(int most, int people) {
        int size = 1 + upTo(most - 1);
        for (int s = 0; s < size; s++) {
            pair.call("station", upTo(3), 1 + upTo(random.nextBoolean() ? 3 : 8), 1 + upTo(3));
        }
        for (int p = 0; p < 2; p++) {
            int step = 1 + upTo(size - 1);
            int start = upTo(size - 1);
            int at = start;
            int w = 1 + upTo(8);
            for (int i = 0; i < size; i++) {
                pair.call("route", p, at, (at + step) % size, w);
                at = (at + step) % size;
            }
            int more = upTo(2);
            for (int i = 0; i < more; i++) pair.call("route", p, upTo(size - 1), upTo(size - 1), 1 + upTo(2));
            pair.call("home", p, start);
            pair.call("parts", p, upTo(people));
        }
    }

    /** All DEMANDS are 20, of both CLASSES: the greatest CONSTANTS there are. */
    private void buildHeavyNet(int walks) {
        for (int s = 0; s < 5; s++) {
            int t = s == 4 ? 4 : 5;
            pair.call("station", s < walks ? 3 : upTo(2), t, t);
        }
        for (int p = 0; p < 2; p++) {
            for (int s = 0; s < 4; s++) pair.call("route", p, s, s + 1, 1 + upTo(8));
            pair.call("route", p, 4, 4, 1);
            pair.call("route", p, 4, 0, 4);
            pair.call("home", p, upTo(4));
        }
    }

    private void anyCall() {
        String name = Pair.NAMES[random.nextInt(Pair.NAMES.length)];
        int p = near(0, 1), line = near(0, 1);
        switch (name) {
            case "station": if (random.nextInt(4) == 0) pair.call(name, near(0, 3), near(1, 9), near(1, 9)); break;
            case "time": if (random.nextInt(3) == 0) pair.call(name, station(), p, near(1, 9)); break;
            case "becomes": if (random.nextInt(3) == 0) pair.call(name, station(), near(0, 3)); break;
            case "route": if (random.nextInt(4) == 0) pair.call(name, p, station(), station(), near(0, 9)); break;
            case "home": if (random.nextInt(4) == 0) pair.call(name, p, station()); break;
            case "parts": if (random.nextInt(3) == 0) pair.call(name, p, near(0, 4)); break;
            case "pay":
                pair.call(name, p, random.nextBoolean() ? upTo(9) - 4 : random.nextLong() >> upTo(62));
                break;
            case "feed": feed(); break;
            case "text": if (random.nextInt(3) == 0) pair.call(name); break;
            case "told": pair.call(name, station(), near(0, 2)); break;
            case "taken": pair.call(name, station(), near(0, 2)); break;
            case "of": pair.call(name, p, near(0, 3)); break;
            case "visits": pair.call(name, p, station(), near(0, 1)); break;
            case "constant": pair.call(name, upTo(3), upTo(3), near(0, pair.x.count(0)), line); break;
            case "odds": pair.call(name, near(0, 3), line); break;
            case "likely": pair.call(name, p, station()); break;
            case "film": pair.call(name, near(0, 3)); break;
            case "rate": pair.call(name, p, near(0, 4), line); break;
            case "mean": pair.call(name, p, station(), near(0, 2), line); break;
            case "busy": pair.call(name, station(), line); break;
            case "swift": pair.call(name, p); break;
            case "turn": pair.call(name, random.nextBoolean() ? 1 + upTo(3) : near(1, 60)); break;
            case "where": pair.call(name, near(0, 8), near(0, 2)); break;
            case "stands": pair.call(name, station(), near(0, 4)); break;
            case "passed": pair.call(name, p, station()); break;
            case "seed": pair.call(name, random.nextInt()); break;
            case "back": if (random.nextInt(4) == 0) pair.call(name); break;
            case "count": pair.call(name, near(0, 5)); break;
            case "sheet": pair.call(name, near(0, 3), near(-1, 2), random.nextBoolean() ? near(0, 40) : 10); break;
            case "put": put(); break;
            case "item": pair.call(name, near(0, 3), near(0, 12)); break;
            case "copy": pair.call(name, near(0, 3), near(0, 6), near(0, 3), near(0, 6), near(0, 6)); break;
            case "lay": if (random.nextInt(3) == 0) pair.call(name, near(0, 3), p, station(), near(0, 2), near(0, 8)); break;
            default: pair.call(name);
        }
    }

    private void put() {
        long v = random.nextInt(3) > 0 ? upTo(3) : random.nextLong() >> upTo(62);
        pair.call("put", near(0, 3), near(0, 10), v);
    }

    /** A CLAUSE or two, at times with a byte that can't stand there. */
    private void feed() {
        StringBuilder s = new StringBuilder();
        if (pair.x.count(5) > 0 && random.nextInt(8) > 0) s.append(';');
        char letter = "srhn".charAt(upTo(3));
        s.append(letter);
        int digits = letter == 's' ? 3 : letter == 'r' ? 4 : 2;
        for (int i = 0; i < digits; i++) s.append((char) ('0' + (random.nextInt(4) == 0 ? upTo(9) : upTo(3))));
        if (random.nextInt(8) == 0) s.setCharAt(upTo(s.length() - 1), (char) upTo(255));
        if (random.nextInt(8) == 0) s.setLength(upTo(s.length()));
        for (int i = 0; i < s.length(); i += 5) {
            int n = Math.min(5, s.length() - i);
            long[] a = {n, upTo(255), upTo(255), upTo(255), upTo(255), upTo(255)};
            for (int k = 0; k < n; k++) a[1 + k] = s.charAt(i + k);
            pair.call("feed", a);
        }
    }

    private void wildCall() {
        int k = random.nextInt(Pair.NAMES.length);
        long[] a = new long[Pair.COUNTS[k]];
        for (int i = 0; i < a.length; i++) a[i] = random.nextBoolean() ? upTo(5) : ODD[random.nextInt(ODD.length)];
        if (Pair.NAMES[k].equals("turn") && a[0] > 60) a[0] = 61;
        pair.call(Pair.NAMES[k], a);
    }

    /** All that can be asked of states, rates and limits. */
    private void askAll() {
        int size = pair.x.count(0);
        pair.call("sound");
        pair.call("narrow");
        pair.call("film", 0);
        for (int p = 0; p < 2; p++) {
            pair.call("swift", p);
            for (int line = 0; line < 2; line++) {
                for (int what = 0; what < 5; what++) pair.call("rate", p, what, line);
                pair.call("odds", 0, line);
                for (int s = 0; s < size; s++) {
                    pair.call("busy", s, line);
                    for (int what = 0; what < 3; what++) pair.call("mean", p, s, what, line);
                }
            }
        }
        for (int i = 0; i < 2 * size; i++) pair.call("item", 0, i);
    }

    private void runOnTurns() {
        pair.call("begin");
        for (int k = 0; k < 12; k++) {
            pair.call("turn", 1 + upTo(4));
            for (int one = 0; one < 8; one++) {
                for (int what = 0; what < 3; what++) pair.call("where", one, what);
            }
            pair.call("earned");
        }
        for (int s = 0; s < 5; s++) {
            for (int i = 0; i < 9; i++) pair.call("stands", s, i);
            for (int p = 0; p < 2; p++) pair.call("passed", p, s);
        }
        pair.call("count", 4);
        pair.call("seed", random.nextInt());
    }

    public static void main(String[] args) {
        Due due = new Due();
        int sound = 0;
        int runs = args.length > 0 ? Integer.parseInt(args[0]) : 600;
        for (int run = 0; run < runs && due.wrong() == 0; run++) {
            ModelTest t = new ModelTest(due, run);
            if (run % 10 > 0) t.buildNet(run % 3 == 0 ? 5 : 4, 3);
            if (run % 5 == 1) t.askAll();
            if (run % 5 == 2) t.runOnTurns();
            sound += t.pair.x.sound();
            while (t.pair.calls() < 505 && !t.pair.differs()) {
                if (run % 7 == 3) t.wildCall();
                else t.anyCall();
            }
        }
        int[][] many = {{4, 4}, {6, 2}, {2, 6}, {5, 3}, {3, 5}, {6, 0}, {0, 6}, {4, 3}, {5, 2}, {6, 1}, {1, 6}};
        for (int i = 0; i < many.length && due.wrong() == 0; i++) {
            ModelTest t = new ModelTest(due, i);
            t.buildHeavyNet(i % 3 == 0 ? 0 : i % 6);
            t.pair.call("parts", 0, many[i][0]);
            t.pair.call("parts", 1, many[i][1]);
            t.askAll();
            for (int n0 = 0; n0 <= 6; n0++) {
                for (int n1 = 0; n1 <= 6; n1++) t.pair.call("constant", n0, n1, 1 + (n0 + n1) % 5, 0);
            }
            t.pair.call("constant", many[i][0], many[i][1], 5, 0);
            t.pair.call("constant", many[i][0], many[i][1], 5, 1);
        }
        System.out.println(sound + " of " + runs + " nets were SOUND when built");
        due.end();
    }
}
