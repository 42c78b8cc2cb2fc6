import java.lang.reflect.Method;
import java.lang.reflect.Modifier;
import java.util.ArrayList;
import java.util.List;

/** The class and the model side by side: each call goes to both, and their answers are compared. */
final class Pair {
    static final String[] NAMES = {"station", "time", "becomes", "route", "home", "parts", "pay", "feed", "text", "told",
        "taken", "of", "visits", "sound", "constant", "odds", "likely", "film", "rate", "mean", "busy", "narrow", "swift",
        "begin", "turn", "where", "stands", "passed", "earned", "seed", "image", "back", "count", "sheet", "put", "item",
        "copy", "lay"};
    static final int[] COUNTS = {3, 3, 2, 4, 2, 2, 2, 6, 0, 2, 2, 2, 3, 0, 4, 2, 2, 1, 3, 4, 2, 0, 1, 0, 1, 2, 2, 2, 0, 1,
        0, 0, 1, 3, 3, 2, 5, 5};
    final PalletRounds x = new PalletRounds();
    final Model m = new Model();
    private final Due due;
    private final List<String> said = new ArrayList<>();
    private boolean differs = false;

    Pair(Due due) {
        this.due = due;
    }

    int calls() {
        return said.size();
    }

    boolean differs() {
        return differs;
    }

    long call(String name, long... a) {
        long got = ask(x, name, a);
        long want = ask(m, name, a);
        StringBuilder s = new StringBuilder(name).append('(');
        for (int i = 0; i < a.length; i++) s.append(i == 0 ? "" : ", ").append(a[i]);
        String call = s.append(')').toString();
        said.add(call + " -> " + want);
        if (got != want && !differs) {
            differs = true;
            int first = Math.max(0, said.size() - 60);
            for (String line : said.subList(first, said.size())) System.out.println("  " + line);
        }
        due.is(call, got, want);
        return want;
    }

    static long ask(PalletRounds x, String name, long... a) {
        switch (name) {
            case "station": return x.station((int) a[0], (int) a[1], (int) a[2]);
            case "time": return x.time((int) a[0], (int) a[1], (int) a[2]);
            case "becomes": return x.becomes((int) a[0], (int) a[1]);
            case "route": return x.route((int) a[0], (int) a[1], (int) a[2], (int) a[3]);
            case "home": return x.home((int) a[0], (int) a[1]);
            case "parts": return x.parts((int) a[0], (int) a[1]);
            case "pay": return x.pay((int) a[0], a[1]);
            case "feed": return x.feed((int) a[0], (int) a[1], (int) a[2], (int) a[3], (int) a[4], (int) a[5]);
            case "text": return x.text();
            case "told": return x.told((int) a[0], (int) a[1]);
            case "taken": return x.taken((int) a[0], (int) a[1]);
            case "of": return x.of((int) a[0], (int) a[1]);
            case "visits": return x.visits((int) a[0], (int) a[1], (int) a[2]);
            case "sound": return x.sound();
            case "constant": return x.constant((int) a[0], (int) a[1], (int) a[2], (int) a[3]);
            case "odds": return x.odds((int) a[0], (int) a[1]);
            case "likely": return x.likely((int) a[0], (int) a[1]);
            case "film": return x.film((int) a[0]);
            case "rate": return x.rate((int) a[0], (int) a[1], (int) a[2]);
            case "mean": return x.mean((int) a[0], (int) a[1], (int) a[2], (int) a[3]);
            case "busy": return x.busy((int) a[0], (int) a[1]);
            case "narrow": return x.narrow();
            case "swift": return x.swift((int) a[0]);
            case "begin": return x.begin();
            case "turn": return x.turn((int) a[0]);
            case "where": return x.where((int) a[0], (int) a[1]);
            case "stands": return x.stands((int) a[0], (int) a[1]);
            case "passed": return x.passed((int) a[0], (int) a[1]);
            case "earned": return x.earned();
            case "seed": return x.seed((int) a[0]);
            case "image": return x.image();
            case "back": return x.back();
            case "count": return x.count((int) a[0]);
            case "sheet": return x.sheet((int) a[0], (int) a[1], (int) a[2]);
            case "put": return x.put((int) a[0], (int) a[1], a[2]);
            case "item": return x.item((int) a[0], (int) a[1]);
            case "copy": return x.copy((int) a[0], (int) a[1], (int) a[2], (int) a[3], (int) a[4]);
            default: return x.lay((int) a[0], (int) a[1], (int) a[2], (int) a[3], (int) a[4]);
        }
    }

    /** By reflection, so that the list of calls stands here only once. */
    private static long ask(Model x, String name, long... a) {
        try {
            for (Method method : Model.class.getDeclaredMethods()) {
                if (!method.getName().equals(name) || Modifier.isPrivate(method.getModifiers())) continue;
                if (name.equals("feed")) {
                    return x.feed((int) a[0], (int) a[1], (int) a[2], (int) a[3], (int) a[4], (int) a[5]);
                }
                Class<?>[] types = method.getParameterTypes();
                if (types.length != a.length) continue;
                Object[] given = new Object[a.length];
                for (int i = 0; i < a.length; i++) {
                    if (types[i] == long.class) given[i] = a[i];
                    else given[i] = (int) a[i];
                }
                return ((Number) method.invoke(x, given)).longValue();
            }
        } catch (ReflectiveOperationException e) {
            throw new IllegalStateException(name, e);
        }
        throw new IllegalStateException("the model lacks " + name);
    }
}
