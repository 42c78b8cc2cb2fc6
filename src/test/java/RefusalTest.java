import java.util.ArrayList;
import java.util.List;

/**
 * Terms 1: what is refused, by the first refusal that the call's words name, and that it changes nothing. Each refused
 * call is made on a scene anew, and then all is looked at: it has to be as on a scene on which it wasn't made.
 */
public final class RefusalTest {
    private static final Due DUE = new Due();

    /** Four STATIONS of all KINDS, both CLASSES on their way, a TAPE, SHEETS of all sorts, an IMAGE of what was before. */
    private static final String[] BUSY_SCENE = {
        "station 0 2 9; station 3 1 4; station 2 2 2; station 1 3 1",
        "route 0 0 1 2; route 0 1 1 3; route 0 1 2 1; route 0 2 3 1; route 0 3 0 1",
        "route 1 0 2 1; route 1 2 3 9; route 1 3 0 4; route 1 3 2 4",
        "home 0 0; home 1 0; parts 0 2; parts 1 1; pay 0 7; pay 1 5; image",
        "home 1 2; parts 0 3; parts 1 2; pay 0 -70; pay 1 9; time 1 0 2",
        "feed 5 110 48 53 59 104; feed 2 48 49 0 0 0",
        "sheet 0 0 8; put 0 0 1; put 0 2 2; put 0 6 2; sheet 1 2 5; put 1 4 -3; sheet 3 1 8; put 3 1 3; put 3 7 2",
        "seed 12345; begin; turn 17"};
    private static final String[] NOTHING = {};
    /** CLASS 0 has PARTS and a HOME, but doesn't GO ROUND; CLASS 1 does, but has none. */
    private static final String[] UNSOUND = {
        "station 1 1 1; station 2 2 2; route 0 0 1 1; route 1 0 0 1; home 0 0; home 1 0; parts 0 2; image; parts 0 3",
        "sheet 0 0 4; put 0 0 3; sheet 1 1 2; put 1 0 9; pay 0 5"};
    private static final String[] WALKS = {
        "station 3 2 3; station 3 4 5; route 0 0 1 1; route 0 1 0 1; home 0 0; parts 0 6; begin; turn 3"};
    private static final String[] FULL = {
        "station 0 1 1; station 0 1 1; station 1 1 1; station 2 1 1; station 3 1 1",
        "sheet 0 0 40; sheet 1 1 40; sheet 2 2 40; sheet 3 0 40; put 0 39 9; put 1 39 9; put 2 39 -9; put 3 39 9",
        "put 0 0 9; put 0 1 9; put 0 2 9; put 0 3 9; put 0 4 9",
        "lay 0 0 0 0 0; lay 0 0 1 0 0; lay 0 0 2 0 0; lay 0 0 3 0 0; lay 0 0 4 0 0",
        "lay 0 1 0 0 0; lay 0 1 1 0 0; lay 0 1 2 0 0; lay 0 1 3 0 0; lay 0 1 4 0 0",
        "home 0 4; home 1 0; parts 0 6; parts 1 2; pay 0 MOST; pay 1 LEAST; image",
        "feed 5 110 48 53 59 110; feed 5 49 50 59 110 48; feed 5 54 59 110 49 50; feed 5 59 110 48 53 59",
        "feed 5 110 48 53 59 110; feed 5 49 50 59 110 48; feed 5 54 59 110 49 50; feed 5 59 110 48 53 59",
        "feed 5 110 48 53 59 110; feed 5 49 50 59 110 48; feed 5 54 59 110 49 50; feed 5 59 110 48 53 59",
        "begin; turn 60"};

    /** Of each call: of each number the least and the greatest that is none of the refusals, and one that is used. */
    private static final String[] RANGES = {
        "station 0..3=1 1..9=4 1..9=5",
        "time 0..3=1 0..1=1 1..9=4",
        "becomes 0..3=1 0..3=2",
        "route 0..1=1 0..3=2 0..3=1 0..9=5",
        "home 0..1=1 0..3=3",
        "parts 0..1=0 0..6=4",
        "pay 0..1=1 *=77",
        "feed 1..5=2 0..255=65 0..255=66 0..255=67 0..255=68 0..255=69",
        "told 0..3=1 0..2=1",
        "taken 0..3=1 0..2=0",
        "of 0..1=0 0..3=2",
        "visits 0..1=0 0..3=1 0..1=0",
        "constant 0..6=1 0..6=2 0..4=2 0..1=0",
        "odds 0..3=0 0..1=0",
        "likely 0..1=0 0..3=1",
        "film 0..3=1",
        "rate 0..1=0 0..4=0 0..1=0",
        "mean 0..1=0 0..3=1 0..2=1 0..1=0",
        "busy 0..3=2 0..1=0",
        "swift 0..1=0",
        "turn 1..60=2",
        "where 0..4=2!-12 0..2=1",
        "stands 0..3=0 *=0",
        "passed 0..1=0 0..3=1",
        "count 0..5=1",
        "sheet 0..3=1 -1..2=1 0..40=6!-14,-2",
        "put 0..3=0 0..7=2!-12 *=5",
        "item 0..3=0 0..7=2",
        "copy 0..3=0 0..5=2!-12 0..3=0 0..5=1!-12 0..6=3!-12",
        "lay 0..3=0 0..1=0 0..3=1 0..2=0 0..4=2!-12"};
    private static final String LONG_ANSWERS = " pay visits constant odds rate mean busy item ";

    public static void main(String[] args) {
        scenesAreAsMeant();
        lookSees();
        for (String line : RANGES) new RefusalTest(line).all();
        stateRefusals();
        hostRefusals();
        DUE.end();
    }

    private static List<String> busyLook = null;
    private final String name;
    private final int n;
    private final long[] low, high, used, below, above;

    private RefusalTest(String line) {
        String[] words = line.split(" ");
        name = words[0];
        n = words.length - 1;
        low = new long[n];
        high = new long[n];
        used = new long[n];
        below = new long[n];
        above = new long[n];
        long refusal = LONG_ANSWERS.contains(" " + name + " ") ? PalletRounds.NO : PalletRounds.BAD;
        for (int i = 0; i < n; i++) {
            String[] parts = words[i + 1].split("\\.\\.|=|!|,");
            boolean any = parts[0].equals("*");
            low[i] = any ? 0 : Long.parseLong(parts[0]);
            high[i] = any ? 0 : Long.parseLong(parts[1]);
            used[i] = Long.parseLong(parts[any ? 1 : 2]);
            below[i] = any ? 0 : parts.length > 3 ? Long.parseLong(parts[3]) : refusal;
            above[i] = parts.length > 4 ? Long.parseLong(parts[4]) : below[i];
        }
    }

    private void all() {
        for (int i = 0; i < n; i++) {
            if (below[i] == 0) continue;
            stands(i, low[i], below[i]);
            stands(i, high[i], above[i]);
            long[] outside = {low[i] - 1, high[i] + 1, Integer.MIN_VALUE, Integer.MAX_VALUE, high[i] + 256, low[i] - 65536};
            for (int k = 0; k < outside.length; k++) {
                long[] a = used.clone();
                a[i] = outside[k];
                refused(BUSY_SCENE, outside[k] < low[i] ? below[i] : above[i], name, a);
            }
            for (int j = 0; j < i; j++) both(i, j);
        }
    }

    /** Two refusals are due: BAD, which is always named first, or the one that both have. */
    private void both(int i, int j) {
        if (below[j] == 0) return;
        for (int k = 0; k < 4; k++) {
            long[] a = used.clone();
            a[i] = k % 2 == 0 ? low[i] - 1 : high[i] + 1;
            a[j] = k / 2 == 0 ? low[j] - 1 : high[j] + 1;
            long first = k % 2 == 0 ? below[i] : above[i];
            long second = k / 2 == 0 ? below[j] : above[j];
            refused(BUSY_SCENE, second == PalletRounds.BAD ? second : first, name, a);
        }
    }

    /** At the bound itself nothing is refused by this number. */
    private void stands(int i, long v, long refusal) {
        long[] a = used.clone();
        a[i] = v;
        PalletRounds x = Script.made(BUSY_SCENE);
        long answer = Pair.ask(x, name, a);
        DUE.is("at its bound: " + call(name, a) + " is " + answer, answer == refusal ? 1 : 0, 0);
    }

    private static String call(String name, long... a) {
        StringBuilder s = new StringBuilder(name);
        for (long v : a) s.append(' ').append(v);
        return s.toString();
    }

    private static void refused(String[] scene, long want, String name, long... a) {
        PalletRounds x = Script.made(scene);
        DUE.is("refused: " + call(name, a), Pair.ask(x, name, a), want);
        nothingChanged(scene, call(name, a), x);
    }

    private static void nothingChanged(String[] scene, String call, PalletRounds x) {
        if (busyLook == null) busyLook = Look.at(Script.made(BUSY_SCENE));
        List<String> want = scene == BUSY_SCENE ? busyLook : Look.at(Script.made(scene));
        String difference = Look.difference(want, Look.at(x));
        DUE.is("after " + call + ": " + difference, difference == null ? 0 : 1, 0);
    }

    /** Each line's calls are refused, one by one. */
    private static void refusedAll(String[] scene, String... lines) {
        for (String line : lines) {
            for (String one : line.split(";")) {
                PalletRounds x = Script.made(scene);
                Script.run(DUE, "refused", x, one.trim());
                nothingChanged(scene, one.trim(), x);
            }
        }
    }

    private static void scenesAreAsMeant() {
        Script.run(DUE, "BUSY_SCENE", Script.made(BUSY_SCENE), "sound = 1; count 0 = 4; count 3 = 5; count 4 = 17; count 5 = 7",
            "copy 2 0 0 0 0 = -11; copy 0 0 1 0 0 = -13; copy 0 0 3 0 0 = -13; copy 1 0 3 0 0 = -13; back = 4; count 1 = 3");
        Script.run(DUE, "UNSOUND", Script.made(UNSOUND), "sound = 0; of 0 2 = 0; of 1 2 = 1; parts 0 0 = 3; sound = 1");
        Script.run(DUE, "WALKS", Script.made(WALKS), "sound = 1; narrow = NONE; count 3 = 6; count 4 = 3");
        Script.run(DUE, "FULL", Script.made(FULL), "sound = 1; count 0 = 5; count 1 = 8; count 2 = 50; count 3 = 8",
            "count 4 = 60",
            "count 5 = 60; back = 5; text = -160");
    }

    /** A look that sees no change would prove nothing: each of these it has to see. */
    private static void lookSees() {
        String[] changes = {"station 0 1 1", "time 1 1 5", "becomes 0 1", "route 0 2 2 1", "route 1 1 1 9", "home 0 3",
            "parts 0 2", "parts 1 3", "pay 0 8", "pay 1 8", "feed 1 59 0 0 0 0", "text", "begin", "turn 1", "seed 4", "image",
            "back", "film 2", "sheet 0 0 8", "sheet 0 -1 0", "sheet 2 0 0", "sheet 1 1 5", "put 0 7 5", "put 1 0 5",
            "copy 0 0 0 1 2", "lay 0 0 1 0 0", "time 1 1 4", "becomes 0 0", "route 0 2 2 0", "home 0 0", "parts 0 3"};
        List<String> want = Look.at(Script.made(BUSY_SCENE));
        DUE.is("a look is the same twice", Look.difference(want, Look.at(Script.made(BUSY_SCENE))) == null ? 0 : 1, 0);
        for (String change : changes) {
            PalletRounds x = Script.made(BUSY_SCENE);
            Script.run(DUE, "", x, change);
            DUE.is("a look sees " + change, Look.difference(want, Look.at(x)) == null ? 1 : 0, 0);
        }
        int calls = 0;
        for (String line : BUSY_SCENE) calls += line.split(";").length;
        DUE.is("512 calls at most: " + (calls + 2 + want.size()), calls + 2 + want.size() <= 512 ? 1 : 0, 1);
    }

    private static void stateRefusals() {
        refusedAll(NOTHING,
            "time 0 0 1 = BAD; becomes 0 0 = BAD; route 0 0 0 1 = BAD; home 0 0 = BAD; home 1 -1 = BAD; pay 2 1 = NO",
            "told 0 0 = BAD; taken 0 0 = BAD; visits 0 0 0 = NO; likely 0 0 = BAD; passed 0 0 = BAD; stands 0 0 = BAD",
            "constant 1 0 0 0 = NO; constant 0 1 0 0 = NO; constant 0 0 1 0 = NO; mean 0 0 0 0 = NO; busy 0 0 = NO",
            "odds 0 0 = NO; odds 3 1 = NO; rate 0 2 0 = NO; rate 0 3 0 = NO; rate 1 4 1 = NO; film 4 = BAD; film -1 = BAD",
            "swift 0 = STATE; swift 1 = STATE; swift 2 = BAD; swift -1 = BAD; turn 1 = STATE; turn 60 = STATE",
            "turn 0 = BAD; turn 61 = BAD; where 0 0 = -12; where 0 3 = BAD; where -1 -1 = BAD; back = STATE",
            "text = -100; put 0 0 1 = -11; put 3 -1 1 = -11; put 4 0 1 = BAD; item 0 0 = NO; copy 0 0 1 0 0 = -11",
            "copy 0 0 0 0 -1 = -11; copy 4 0 0 0 0 = BAD; lay 0 0 0 0 0 = BAD; sheet 0 0 -1 = -14; sheet 0 3 -1 = BAD");
        refusedAll(UNSOUND,
            "constant 0 0 0 0 = NO; constant 1 0 1 1 = NO; odds 0 0 = NO; likely 0 0 = STATE; likely 0 2 = BAD",
            "likely 2 0 = BAD; film 0 = STATE; film 1 = STATE; film 3 = STATE; film 4 = BAD; rate 0 0 0 = NO; rate 0 1 0 = NO",
            "rate 0 2 0 = NO; rate 0 3 0 = NO; rate 0 4 1 = NO; rate 1 0 0 = NO; rate 1 1 1 = NO; mean 0 0 0 0 = NO",
            "mean 1 0 1 1 = NO; mean 0 0 2 0 = NO; busy 0 0 = NO; busy 1 1 = NO; narrow = STATE; swift 0 = STATE",
            "swift 1 = STATE; swift 2 = BAD; begin = STATE; turn 1 = STATE; turn 0 = BAD; turn 61 = BAD; where 0 0 = -12",
            "where 0 3 = BAD; visits 0 0 0 = NO; visits 0 1 1 = NO");
        refusedAll(WALKS,
            "busy 0 0 = NO; busy 1 1 = NO; taken 0 0 = -13; taken 0 1 = -13; taken 0 3 = BAD; taken 2 0 = BAD",
            "parts 0 7 = BAD; parts 1 3 = FULL; parts 1 7 = BAD; rate 0 2 0 = NO; rate 1 2 0 = NO; rate 1 3 0 = NO",
            "swift 1 = STATE; mean 1 0 2 0 = NO; constant 0 1 2 0 = NO; constant 6 3 2 0 = NO; where 6 0 = -12",
            "where 6 3 = BAD",
            "back = STATE; visits 1 0 0 = NO; lay 0 0 0 0 0 = -11");
        refusedAll(FULL,
            "station 0 1 1 = FULL; station 3 9 9 = FULL; station 4 1 1 = BAD; station 0 0 1 = BAD; station 0 1 10 = BAD",
            "parts 0 7 = BAD; parts 1 3 = FULL; parts 1 6 = FULL; parts 1 7 = BAD; parts 1 -1 = BAD; parts 2 3 = BAD",
            "feed 1 65 0 0 0 0 = FULL; feed 5 65 65 65 65 65 = FULL; feed 0 65 0 0 0 0 = BAD; feed 6 65 0 0 0 0 = BAD",
            "feed 1 65 0 0 0 256 = BAD; feed 1 65 -1 0 0 0 = BAD; rate 0 2 0 = NO; rate 1 2 1 = NO; constant 6 3 5 0 = NO",
            "constant 0 0 6 0 = NO; put 0 40 1 = -12; put 3 40 1 = -12; item 2 40 = NO; sheet 0 0 41 = BAD",
            "sheet 3 2 MAX = BAD",
            "copy 0 0 3 0 41 = -12; copy 0 1 3 0 40 = -12; copy 0 0 3 1 40 = -12; lay 0 0 0 0 36 = -12; where 8 0 = -12",
            "odds 0 0 = NO; odds 2 0 = NO");
    }

    /** SHEET 2 is missing, 0 holds longs, 1 shorts, 3 ints. */
    private static void hostRefusals() {
        refusedAll(BUSY_SCENE,
            "put 2 0 5 = -11; put 2 -1 5 = -11; put 2 99 5 = -11; put 4 99 5 = BAD; put 1 5 5 = -12; put 1 -1 5 = -12",
            "item 2 0 = NO; item 1 5 = NO; item 3 8 = NO; odds 2 0 = NO; odds 1 0 = NO; lay 2 0 0 0 0 = -11",
            "lay 2 0 0 1 -1 = -11",
            "lay 2 0 0 2 99 = -11; lay 2 2 0 0 0 = BAD; lay 2 0 4 0 0 = BAD; lay 2 0 0 3 0 = BAD; lay 0 0 0 1 0 = -13",
            "lay 0 0 0 2 99 = -13; lay 1 0 0 0 -1 = -13; lay 3 1 1 0 0 = -13; lay 0 0 0 3 0 = BAD; lay 1 0 0 2 2 = -12",
            "lay 0 0 0 0 5 = -12; lay 0 0 0 0 MAX = -12; lay 3 0 0 1 MIN = -12; copy 2 -1 0 0 -1 = -11; copy 0 -1 2 9 9 = -11",
            "copy 2 0 2 0 0 = -11; copy 0 0 3 0 0 = -13; copy 3 0 1 0 0 = -13; copy 0 -1 3 0 -1 = -13; copy 1 0 0 99 99 = -13",
            "copy 4 0 2 0 0 = BAD; copy 2 0 -1 0 0 = BAD; copy 0 0 4 0 -1 = BAD; copy 0 9 0 0 0 = -12; copy 0 0 0 9 0 = -12",
            "copy 0 0 0 1 8 = -12; copy 0 1 0 0 8 = -12; copy 0 0 0 0 9 = -12; copy 0 0 0 0 -1 = -12; copy 0 MAX 0 0 1 = -12",
            "copy 0 1 0 1 MAX = -12; copy 0 0 0 0 MIN = -12; sheet 4 0 -1 = BAD; sheet 0 3 41 = BAD; sheet 2 0 -1 = -14",
            "sheet 0 -2 0 = BAD; sheet 0 1 41 = BAD; sheet 2 2 MIN = -14; sheet 4 -1 0 = BAD; sheet -1 -1 0 = BAD",
            "taken 0 1 = -13; taken 0 2 = -13; taken 1 0 = -13; taken 1 1 = -13; taken 2 0 = -13; taken 2 2 = -13",
            "taken 3 1 = -13; taken 3 2 = -13; taken 0 3 = BAD; taken 4 1 = BAD; parts 0 7 = BAD; parts 1 6 = FULL",
            "constant 6 3 4 0 = NO; constant 3 6 0 0 = NO; mean 1 1 2 0 = NO; busy 1 0 = NO; where 5 3 = BAD; where 5 0 = -12");
        copyOfNothing();
    }

    /** Places at the very end hold no number, and none is asked there. */
    private static void copyOfNothing() {
        PalletRounds x = Script.made(BUSY_SCENE);
        Script.run(DUE, "38: none", x, "copy 0 8 0 0 0 = 0; copy 0 0 0 8 0 = 0; copy 0 8 0 8 0 = 0");
        nothingChanged(BUSY_SCENE, "copying none", x);
    }
}
