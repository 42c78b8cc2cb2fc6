/** Promises 1 to 14: the net. */
public final class NetTest {
    private static final Due DUE = new Due();
    private static final int NONE = PalletRounds.NONE, BAD = PalletRounds.BAD, STATE = PalletRounds.STATE,
        FULL = PalletRounds.FULL;
    private static final long NO = PalletRounds.NO;

    public static void main(String[] args) {
        promise1NewObject();
        promise2Station();
        promise3Time();
        promise4Becomes();
        promise5Route();
        promise6Home();
        promise7Parts();
        promise8Pay();
        promise9Feed();
        promise10Text();
        promise10Faults();
        promise11Told();
        promise12Taken();
        promise13Of();
        promise14Visits();
        whatIsBegunEnds();
        DUE.end();
    }

    private static void promise1NewObject() {
        PalletRounds x = new PalletRounds();
        for (int what = 0; what <= 5; what++) DUE.is("1: count(" + what + ")", x.count(what), 0);
        for (int part = 0; part < 2; part++) {
            DUE.is("1: of(part, 0)", x.of(part, 0), NONE);
            DUE.is("1: of(part, 1)", x.of(part, 1), 0);
            DUE.is("1: of(part, 2)", x.of(part, 2), 0);
            DUE.is("1: of(part, 3)", x.of(part, 3), 0);
            DUE.is("1: pay(part, 0)", x.pay(part, 0), 0);
        }
        DUE.is("1: sound()", x.sound(), 1);
        DUE.is("1: told(0, 0)", x.told(0, 0), BAD);
        DUE.is("1: turn(1)", x.turn(1), STATE);
        DUE.is("1: back()", x.back(), STATE);
        DUE.is("1: earned()", x.earned(), 0);
        DUE.is("1: narrow()", x.narrow(), NONE);
        for (int sheet = 0; sheet < 4; sheet++) DUE.is("1: put(sheet, 0, 0)", x.put(sheet, 0, 0), -11);
        DUE.is("1: seed(5)", x.seed(5), 1);
        PalletRounds other = new PalletRounds();
        x.station(0, 1, 1);
        DUE.is("1: another object's count(0)", other.count(0), 0);
    }

    private static void promise2Station() {
        PalletRounds x = new PalletRounds();
        int[][] wrong = {{-1, 1, 1}, {4, 1, 1}, {0, 0, 1}, {0, 10, 1}, {0, 1, 0}, {0, 1, 10},
            {Integer.MIN_VALUE, 1, 1}, {0, Integer.MAX_VALUE, 1}};
        for (int[] w : wrong) DUE.is("2: a wrong number", x.station(w[0], w[1], w[2]), BAD);
        DUE.is("2: nothing came", x.count(0), 0);
        for (int i = 0; i < 5; i++) DUE.is("2: station", x.station(i % 4, 1 + 2 * i, 9 - i), i);
        DUE.is("2: a sixth", x.station(0, 1, 1), FULL);
        DUE.is("2: BAD before FULL", x.station(4, 1, 1), BAD);
        DUE.is("2: five remain", x.count(0), 5);
        for (int i = 0; i < 5; i++) {
            DUE.is("2: kind", x.told(i, 0), i % 4);
            DUE.is("2: time 0", x.told(i, 1), 1 + 2 * i);
            DUE.is("2: time 1", x.told(i, 2), 9 - i);
        }
    }

    private static void promise3Time() {
        PalletRounds x = new PalletRounds();
        x.station(0, 3, 7);
        DUE.is("3: time(1, 0, 1)", x.time(1, 0, 1), BAD);
        DUE.is("3: time(-1, 0, 1)", x.time(-1, 0, 1), BAD);
        DUE.is("3: time(0, 2, 1)", x.time(0, 2, 1), BAD);
        DUE.is("3: time(0, -1, 1)", x.time(0, -1, 1), BAD);
        DUE.is("3: time(0, 0, 0)", x.time(0, 0, 0), BAD);
        DUE.is("3: time(0, 0, 10)", x.time(0, 0, 10), BAD);
        DUE.is("3: time(0, 1, 9)", x.time(0, 1, 9), 7);
        DUE.is("3: time(0, 0, 1)", x.time(0, 0, 1), 3);
        DUE.is("3: that of CLASS 1 in a LINE, as it is kept", x.time(0, 1, 2), 9);
        loopAt(x, 1, 0);
        DUE.is("3: in a LINE that of CLASS 0 counts", x.visits(1, 0, 1), 1);
        x.becomes(0, 1);
        DUE.is("3: in a STACK its own", x.visits(1, 0, 1), 2);
    }

    private static void promise4Becomes() {
        PalletRounds x = new PalletRounds();
        x.station(2, 1, 1);
        DUE.is("4: becomes(1, 0)", x.becomes(1, 0), BAD);
        DUE.is("4: becomes(-1, 0)", x.becomes(-1, 0), BAD);
        DUE.is("4: becomes(0, 4)", x.becomes(0, 4), BAD);
        DUE.is("4: becomes(0, -1)", x.becomes(0, -1), BAD);
        DUE.is("4: becomes(0, 3)", x.becomes(0, 3), 2);
        DUE.is("4: becomes(0, 0)", x.becomes(0, 0), 3);
        DUE.is("4: becomes(0, 1)", x.becomes(0, 1), 0);
        DUE.is("4: told(0, 0)", x.told(0, 0), 1);
    }

    private static void promise5Route() {
        PalletRounds x = new PalletRounds();
        x.station(2, 1, 1);
        x.station(2, 1, 1);
        int[][] wrong = {{2, 0, 0, 1}, {-1, 0, 0, 1}, {0, 2, 0, 1}, {0, -1, 0, 1}, {0, 0, 2, 1}, {0, 0, -1, 1},
            {0, 0, 0, -1}, {0, 0, 0, 10}};
        for (int[] w : wrong) DUE.is("5: a wrong number", x.route(w[0], w[1], w[2], w[3]), BAD);
        DUE.is("5: nothing changed", x.count(2), 0);
        DUE.is("5: route(0, 0, 1, 9)", x.route(0, 0, 1, 9), 0);
        DUE.is("5: route(1, 0, 1, 4)", x.route(1, 0, 1, 4), 0);
        DUE.is("5: to itself", x.route(0, 1, 1, 2), 0);
        DUE.is("5: route(0, 0, 1, 0)", x.route(0, 0, 1, 0), 9);
        DUE.is("5: route(0, 1, 1, 1)", x.route(0, 1, 1, 1), 2);
        DUE.is("5: route(0, 1, 0, 1)", x.route(0, 1, 0, 1), 0);
        DUE.is("5: route(1, 0, 1, 4)", x.route(1, 0, 1, 4), 4);
        DUE.is("5: count(2)", x.count(2), 3);
    }

    private static void promise6Home() {
        PalletRounds x = new PalletRounds();
        DUE.is("6: no STATION yet", x.home(0, 0), BAD);
        x.station(2, 1, 1);
        x.station(2, 1, 1);
        DUE.is("6: home(0, 1)", x.home(0, 1), NONE);
        DUE.is("6: home(0, 0)", x.home(0, 0), 1);
        DUE.is("6: home(1, 0)", x.home(1, 0), NONE);
        DUE.is("6: home(0, 2)", x.home(0, 2), BAD);
        DUE.is("6: home(0, -1)", x.home(0, -1), BAD);
        DUE.is("6: home(2, 0)", x.home(2, 0), BAD);
        DUE.is("6: home(-1, 0)", x.home(-1, 0), BAD);
        DUE.is("6: of(0, 0)", x.of(0, 0), 0);
    }

    private static void promise7Parts() {
        PalletRounds x = new PalletRounds();
        DUE.is("7: parts(0, 6)", x.parts(0, 6), 0);
        DUE.is("7: parts(0, 7)", x.parts(0, 7), BAD);
        DUE.is("7: parts(0, -1)", x.parts(0, -1), BAD);
        DUE.is("7: parts(2, 0)", x.parts(2, 0), BAD);
        DUE.is("7: parts(-1, 0)", x.parts(-1, 0), BAD);
        DUE.is("7: nine", x.parts(1, 3), FULL);
        DUE.is("7: BAD before FULL", x.parts(1, 7), BAD);
        DUE.is("7: eight", x.parts(1, 2), 0);
        DUE.is("7: as many", x.parts(0, 6), 6);
        DUE.is("7: fewer", x.parts(0, 4), 6);
        DUE.is("7: more of the other", x.parts(1, 4), 2);
        DUE.is("7: five more", x.parts(0, 5), FULL);
        DUE.is("7: of(0, 1)", x.of(0, 1), 4);
    }

    private static void promise8Pay() {
        PalletRounds x = new PalletRounds();
        DUE.is("8: pay(0, MAX)", x.pay(0, Long.MAX_VALUE), 0);
        DUE.is("8: pay(0, MIN)", x.pay(0, Long.MIN_VALUE), Long.MAX_VALUE);
        DUE.is("8: pay(0, 1)", x.pay(0, 1), Long.MIN_VALUE);
        DUE.is("8: pay(1, 5)", x.pay(1, 5), 0);
        DUE.is("8: pay(2, 5)", x.pay(2, 5), NO);
        DUE.is("8: pay(-1, 5)", x.pay(-1, 5), NO);
        DUE.is("8: pay(1, 0)", x.pay(1, 0), 5);
    }

    private static void promise9Feed() {
        PalletRounds x = new PalletRounds();
        DUE.is("9: none", x.feed(0, 1, 1, 1, 1, 1), BAD);
        DUE.is("9: six", x.feed(6, 1, 1, 1, 1, 1), BAD);
        DUE.is("9: below 0", x.feed(-1, 1, 1, 1, 1, 1), BAD);
        for (int i = 0; i < 5; i++) {
            int[] b = {1, 1, 1, 1, 1};
            b[i] = 256;
            DUE.is("9: byte " + i + " is 256", x.feed(1, b[0], b[1], b[2], b[3], b[4]), BAD);
            b[i] = -1;
            DUE.is("9: byte " + i + " is -1", x.feed(1, b[0], b[1], b[2], b[3], b[4]), BAD);
        }
        DUE.is("9: two", x.feed(2, 0, 255, 0, 0, 0), 2);
        int size = 2;
        for (int n = 1; n <= 5; n++) {
            size += n;
            DUE.is("9: " + n + " more", x.feed(n, 1, 2, 3, 4, 5), size);
        }
        for (int i = 0; i < 8; i++) x.feed(5, 1, 2, 3, 4, 5);
        DUE.is("9: 57 of 60", x.count(5), 57);
        DUE.is("9: four do not go in", x.feed(4, 1, 1, 1, 1, 1), FULL);
        DUE.is("9: BAD before FULL", x.feed(4, 1, 1, 1, 1, 256), BAD);
        DUE.is("9: three do", x.feed(3, 1, 1, 1, 1, 1), 60);
        DUE.is("9: one more", x.feed(1, 1, 1, 1, 1, 1), FULL);
        DUE.is("9: still 60", x.count(5), 60);
    }

    private static void write(PalletRounds x, String text) {
        for (int i = 0; i < text.length(); i += 5) {
            int n = Math.min(5, text.length() - i);
            int[] b = new int[5];
            for (int k = 0; k < n; k++) b[k] = text.charAt(i + k);
            x.feed(n, b[0], b[1], b[2], b[3], b[4]);
        }
    }

    private static void read(PalletRounds x, String text, int want) {
        write(x, text);
        DUE.is("10: text() of '" + text + "'", x.text(), want);
        DUE.is("10: THE TAPE is empty behind '" + text + "'", x.count(5), 0);
    }

    private static void promise10Text() {
        PalletRounds x = new PalletRounds();
        read(x, "s021;s133;r0011;r0101;h00;n03", 6);
        DUE.is("10: kind", x.told(1, 0), 1);
        DUE.is("10: times", x.told(0, 1) * 10 + x.told(0, 2), 21);
        DUE.is("10: home", x.of(0, 0), 0);
        DUE.is("10: parts", x.of(0, 1), 3);
        DUE.is("10: routes", x.count(2), 2);
        DUE.is("10: route", x.route(0, 1, 0, 1), 1);
        read(x, "h01", 1);
        DUE.is("10: home told, not NONE", x.of(0, 0), 1);
        // each would be refused: KIND, TIME, STATION, CLASS, PARTS, too many PARTS
        read(x, "s411;s101;h02;r2001;n07;n16;h99", 0);
        DUE.is("10: no STATION came", x.count(0), 2);
        DUE.is("10: no PARTS came", x.count(1), 3);
        read(x, "n09;n01", 1);
        DUE.is("10: the second was done", x.of(0, 1), 1);
        read(x, "s111;s111;s111;s111", 3);
        DUE.is("10: then it was full", x.count(0), 5);
        read(x, "h04;h03;h02", 3);
        DUE.is("10: the last counts", x.of(0, 0), 2);
        read(x, "s111;s111;s111;s111;s111;s111;s111;s111;s111;s111;s111;s111", 0);
        read(x, "s111;s111;s111;s111;s111;s111;s111;s111;s111;s111;s111;s111;", -160);
    }

    private static void promise10Faults() {
        PalletRounds x = new PalletRounds();
        DUE.is("10: an empty TAPE", x.text(), -100);
        read(x, "x", -100);
        read(x, ";", -100);
        read(x, "1", -100);
        read(x, "S111", -100);
        read(x, " h00", -100);
        read(x, "s", -101);
        read(x, "sS11", -101);
        read(x, "s1", -102);
        read(x, "s12", -103);
        read(x, "s1111", -104);
        read(x, "s111 s111", -104);
        read(x, "s111;", -105);
        read(x, "s111;;", -105);
        read(x, "s111;x", -105);
        read(x, "s111;h0", -107);
        read(x, "r001", -104);
        read(x, "r00111", -105);
        read(x, "h0", -102);
        read(x, "h0x", -102);
        read(x, "h000", -103);
        read(x, "h00 ", -103);
        read(x, "h00,n00", -103);
        read(x, "n", -101);
        read(x, "n0/", -102);
        read(x, "n0:", -102);
        read(x, "n001", -103);
        DUE.is("10: nothing was done", x.count(0), 0);
    }

    private static void promise11Told() {
        PalletRounds x = new PalletRounds();
        DUE.is("11: no STATION", x.told(0, 0), BAD);
        x.station(0, 4, 6);
        DUE.is("11: told(0, 0)", x.told(0, 0), 0);
        DUE.is("11: told(0, 1)", x.told(0, 1), 4);
        DUE.is("11: told(0, 2), as it is kept in a LINE", x.told(0, 2), 6);
        DUE.is("11: told(0, 3)", x.told(0, 3), BAD);
        DUE.is("11: told(0, -1)", x.told(0, -1), BAD);
        DUE.is("11: told(-1, 0)", x.told(-1, 0), BAD);
        DUE.is("11: told(1, 0)", x.told(1, 0), BAD);
    }

    /** A CLASS that only goes from its HOME to its HOME. */
    private static void loopAt(PalletRounds x, int part, int station) {
        x.route(part, station, station, 1);
        x.home(part, station);
    }

    private static void promise12Taken() {
        PalletRounds x = new PalletRounds();
        int[] groups = {0, 0, 1, 2};
        for (int kind = 0; kind < 4; kind++) {
            x.station(kind, 1, 1);
            for (int group = 0; group < 3; group++) {
                DUE.is("12: kind " + kind + " for " + group, x.taken(kind, group), group == groups[kind] ? 0 : -13);
            }
        }
        DUE.is("12: taken(0, 3)", x.taken(0, 3), BAD);
        DUE.is("12: taken(0, -1)", x.taken(0, -1), BAD);
        DUE.is("12: taken(4, 0)", x.taken(4, 0), BAD);
        DUE.is("12: taken(-1, 0)", x.taken(-1, 0), BAD);
        loopAt(x, 0, 2);
        x.parts(0, 4);
        DUE.is("12: nothing is BEGUN", x.taken(2, 1), 0);
        x.begin();
        DUE.is("12: four stand there", x.taken(2, 1), 4);
    }

    private static void promise13Of() {
        PalletRounds x = new PalletRounds();
        for (int i = 0; i < 4; i++) x.station(1, 1, 1);
        DUE.is("13: of(2, 0)", x.of(2, 0), BAD);
        DUE.is("13: of(-1, 0)", x.of(-1, 0), BAD);
        DUE.is("13: of(0, 4)", x.of(0, 4), BAD);
        DUE.is("13: of(0, -1)", x.of(0, -1), BAD);
        x.route(0, 3, 3, 1);
        DUE.is("13: without HOME none is REACHED", x.of(0, 3), 0);
        DUE.is("13: without HOME it doesn't GO ROUND", x.of(0, 2), 0);
        x.home(0, 1);
        DUE.is("13: HOME is REACHED", x.of(0, 3), 2);
        DUE.is("13: one ROUTE or more", x.of(0, 2), 0);
        x.route(0, 1, 1, 1);
        DUE.is("13: a loop at HOME", x.of(0, 2), 1);
        x.route(0, 1, 2, 5);
        x.route(0, 2, 0, 5);
        DUE.is("13: a way without return", x.of(0, 2), 0);
        DUE.is("13: of(0, 3)", x.of(0, 3), 7);
        x.route(0, 0, 1, 1);
        DUE.is("13: the return", x.of(0, 2), 1);
        x.route(0, 2, 3, 1);
        DUE.is("13: round and round elsewhere", x.of(0, 2), 0);
        DUE.is("13: all", x.of(0, 3), 15);
        DUE.is("13: the other CLASS", x.of(1, 3), 0);
        x.parts(0, 3);
        DUE.is("13: of(0, 1)", x.of(0, 1), 3);
        DUE.is("13: of(0, 0)", x.of(0, 0), 1);
    }

    private static void promise14Visits() {
        PalletRounds x = new PalletRounds();
        x.station(0, 2, 9);
        x.station(1, 1, 3);
        x.station(3, 2, 1);
        x.home(0, 0);
        DUE.is("14: it doesn't GO ROUND", x.visits(0, 0, 0), NO);
        x.route(0, 0, 1, 2);
        x.route(0, 0, 2, 4);
        x.route(0, 1, 0, 7);
        x.route(0, 2, 0, 2);
        x.route(0, 2, 2, 2);
        // 0: 3 leave, 1 to STATION 1, 2 to 2, where half goes on: 4
        long[] want = {3, 1, 4};
        int[] times = {2, 1, 2};
        for (int s = 0; s < 3; s++) {
            DUE.is("14: visits(0, s, 0)", x.visits(0, s, 0), want[s]);
            DUE.is("14: visits(0, s, 1)", x.visits(0, s, 1), want[s] * times[s]);
        }
        DUE.is("14: visits(0, 3, 0)", x.visits(0, 3, 0), NO);
        DUE.is("14: visits(0, -1, 0)", x.visits(0, -1, 0), NO);
        DUE.is("14: visits(2, 0, 0)", x.visits(2, 0, 0), NO);
        DUE.is("14: visits(-1, 0, 0)", x.visits(-1, 0, 0), NO);
        DUE.is("14: visits(0, 0, 2)", x.visits(0, 0, 2), NO);
        DUE.is("14: visits(0, 0, -1)", x.visits(0, 0, -1), NO);
        loopAt(x, 1, 0);
        DUE.is("14: CLASS 1 in a LINE takes TIME of CLASS 0", x.visits(1, 0, 1), 2);
        DUE.is("14: not REACHED", x.visits(1, 1, 0), 0);
        largeVisits();
    }

    /** On with 9 of 10 back by one: VISITS grow by nines. */
    private static void largeVisits() {
        PalletRounds x = new PalletRounds();
        for (int i = 0; i < 5; i++) x.station(1, 9, 9);
        x.home(0, 0);
        x.route(0, 0, 1, 1);
        for (int i = 1; i < 5; i++) {
            x.route(0, i, i - 1, 1);
            if (i < 4) x.route(0, i, i + 1, 9);
        }
        long[] want = {1, 10, 90, 810, 729};
        for (int s = 0; s < 5; s++) DUE.is("14: visits of " + s, x.visits(0, s, 0), want[s]);
        DUE.is("14: DEMAND above 20 is told", x.visits(0, 3, 1), 7290);
    }

    private static PalletRounds begun() {
        PalletRounds x = new PalletRounds();
        x.station(1, 1, 2);
        x.station(1, 2, 2);
        loopAt(x, 0, 0);
        x.parts(0, 2);
        x.sheet(0, 1, 2);
        x.put(0, 0, 1);
        x.image();
        x.begin();
        x.turn(3);
        DUE.is("begun", x.count(4), 3);
        return x;
    }

    private static void endedIs(String what, PalletRounds x, boolean want) {
        DUE.is(what + ": PARTS in truth", x.count(3), want ? 0 : 2);
        DUE.is(what + ": TURNS", x.count(4), want ? 0 : 3);
        DUE.is(what + ": PASSED", x.passed(0, 0), want ? 0 : 3);
        DUE.is(what + ": stands", x.stands(0, 0), want ? NONE : 0);
        DUE.is(what + ": where", x.where(0, 0), want ? -12 : 0);
        DUE.is(what + ": turn", x.turn(1), want ? STATE : 1);
    }

    /** By all that the Terms name, also if it stays; by no refusal, and by nothing else. */
    private static void whatIsBegunEnds() {
        PalletRounds[] x = new PalletRounds[17];
        for (int i = 0; i < x.length; i++) x[i] = begun();
        x[0].station(0, 1, 1);
        x[1].time(0, 0, 1);
        x[2].becomes(1, 1);
        x[3].route(1, 0, 1, 0);
        x[4].home(0, 0);
        x[5].parts(1, 0);
        x[6].lay(0, 0, 0, 1, 0);
        write(x[7], "n07;n02");
        x[7].text();
        x[8].back();
        for (int i = 0; i < 9; i++) endedIs("ended by " + i, x[i], true);
        x[9].pay(0, 4);
        x[10].seed(9);
        write(x[11], "n07;h05");
        x[11].text();
        x[12].image();
        x[13].station(4, 1, 1);
        x[13].time(0, 0, 0);
        x[13].becomes(2, 1);
        x[13].route(0, 0, 0, 10);
        x[13].home(0, 2);
        x[13].parts(0, 7);
        x[14].lay(0, 0, 0, 1, 1);
        x[14].lay(0, 0, 0, 0, 0);
        x[15].film(0);
        x[15].swift(0);
        x[16].feed(1, 'n', 0, 0, 0, 0);
        x[16].text();
        for (int i = 9; i < x.length; i++) endedIs("not ended by " + i, x[i], false);
    }
}
