/** Promises 15 to 19: constants and states. */
public final class StatesTest {
    private static final Due DUE = new Due();
    private static final int BAD = PalletRounds.BAD, STATE = PalletRounds.STATE;
    private static final long NO = PalletRounds.NO;

    public static void main(String[] args) {
        promise15Sound();
        promise16Constant();
        promise16AtAWalk();
        promise16AtTheBounds();
        promise17Odds();
        promise18Likely();
        promise18Ties();
        promise19Film();
        DUE.end();
    }

    /** Both CLASSES go from STATION 0 to STATION 1 and back. */
    static PalletRounds pairOfStations(int kind0, int kind1, int t00, int t01, int t10, int t11) {
        PalletRounds x = new PalletRounds();
        x.station(kind0, t00, t01);
        x.station(kind1, t10, t11);
        for (int part = 0; part < 2; part++) {
            x.route(part, 0, 1, 1);
            x.route(part, 1, 0, 1);
            x.home(part, 0);
        }
        return x;
    }

    private static void promise15Sound() {
        PalletRounds x = new PalletRounds();
        DUE.is("15: an empty net", x.sound(), 1);
        x.parts(1, 1);
        DUE.is("15: PARTS without HOME", x.sound(), 0);
        x.station(0, 9, 1);
        x.home(1, 0);
        DUE.is("15: without a way round", x.sound(), 0);
        x.route(1, 0, 0, 1);
        DUE.is("15: with one", x.sound(), 1);
        x.station(1, 1, 4);
        x.route(1, 0, 1, 4);
        x.route(1, 1, 0, 1);
        DUE.is("15: 5 to 4 VISITS", x.visits(1, 0, 0) * 10 + x.visits(1, 1, 0), 54);
        DUE.is("15: DEMAND 45", x.sound(), 0);
        x.time(0, 0, 4);
        DUE.is("15: DEMANDS 20 and 16", x.sound(), 1);
        x.time(1, 1, 5);
        DUE.is("15: DEMANDS 20 and 20", x.sound(), 1);
        x.time(1, 1, 6);
        DUE.is("15: DEMAND 24", x.sound(), 0);
        x.parts(1, 0);
        DUE.is("15: nobody minds without PARTS", x.sound(), 1);
        x.parts(0, 1);
        DUE.is("15: the other CLASS has no HOME", x.sound(), 0);
    }

    private static void promise16Constant() {
        PalletRounds x = pairOfStations(1, 2, 2, 3, 5, 7);
        x.parts(0, 2);
        x.parts(1, 1);
        DUE.fraction("16: nobody", x.constant(0, 0, 2, 0), x.constant(0, 0, 2, 1), 1, 1);
        DUE.fraction("16: one", x.constant(1, 0, 2, 0), x.constant(1, 0, 2, 1), 7, 1);
        // 4 + 10 + 25
        DUE.fraction("16: two", x.constant(2, 0, 2, 0), x.constant(2, 0, 2, 1), 39, 1);
        // both at 0: 2 * 2*3, both at 1: 2 * 5*7, apart: 2*7 + 5*3
        DUE.fraction("16: one of each", x.constant(1, 1, 2, 0), x.constant(1, 1, 2, 1), 111, 1);
        DUE.fraction("16: the first STATION", x.constant(1, 1, 1, 0), x.constant(1, 1, 1, 1), 12, 1);
        DUE.fraction("16: no STATION, nobody", x.constant(0, 0, 0, 0), x.constant(0, 0, 0, 1), 1, 1);
        DUE.fraction("16: no STATION, one", x.constant(0, 1, 0, 0), x.constant(0, 1, 0, 1), 0, 1);
        DUE.fraction("16: more than there are", x.constant(6, 0, 1, 0), x.constant(6, 0, 1, 1), 64, 1);
        int[][] wrong = {{-1, 0, 2, 0}, {7, 0, 2, 0}, {0, -1, 2, 0}, {0, 7, 2, 0}, {5, 4, 2, 0}, {1, 1, 3, 0}, {1, 1, -1, 0},
            {1, 1, 2, 2}, {1, 1, 2, -1}, {Integer.MAX_VALUE, Integer.MAX_VALUE, 2, 0}};
        for (int[] w : wrong) DUE.is("16: a wrong number", x.constant(w[0], w[1], w[2], w[3]), NO);
        x.parts(1, 0);
        DUE.is("16: a CLASS without PARTS", x.constant(1, 1, 2, 0), NO);
        DUE.is("16: none of that CLASS", x.constant(1, 0, 2, 0), 7);
        x.route(0, 1, 0, 0);
        DUE.is("16: not SOUND", x.constant(0, 0, 0, 0), NO);
    }

    private static void promise16AtAWalk() {
        PalletRounds x = pairOfStations(3, 3, 1, 1, 1, 1);
        x.parts(0, 1);
        x.parts(1, 1);
        DUE.fraction("16: a WALK", x.constant(2, 3, 1, 0), x.constant(2, 3, 1, 1), 1, 12);
        // 2 to the 5th over 2! 3!
        DUE.fraction("16: two WALKS", x.constant(2, 3, 2, 0), x.constant(2, 3, 2, 1), 8, 3);
        x.becomes(0, 0);
        x.becomes(1, 1);
        // 6 ways of the orders of 5 at each pair of counts: (a + b)! over a! b!, all together 5! over 2! 3! times 6
        DUE.fraction("16: no WALK", x.constant(2, 3, 2, 0), x.constant(2, 3, 2, 1), 60, 1);
    }

    private static void promise16AtTheBounds() {
        PalletRounds x = new PalletRounds();
        for (int s = 0; s < 5; s++) x.station(1, s == 4 ? 4 : 5, s == 4 ? 4 : 5);
        for (int part = 0; part < 2; part++) {
            for (int s = 0; s < 4; s++) x.route(part, s, s + 1, 3);
            x.route(part, 4, 4, 2);
            x.route(part, 4, 0, 8);
            x.home(part, part);
            x.parts(part, 4);
        }
        // all DEMANDS are 20: 20 to the 8th, times 12 over 4 of 8 at 5 STATIONS, times 8 over 4 of the CLASSES
        DUE.fraction("16: the greatest", x.constant(4, 4, 5, 0), x.constant(4, 4, 5, 1), 25600000000L * 495 * 70, 1);
        DUE.fraction("16: as if 6 and 2", x.constant(6, 2, 5, 0), x.constant(6, 2, 5, 1), 25600000000L * 495 * 28, 1);
        DUE.fraction("20: RATE there", x.rate(0, 0, 0), x.rate(0, 0, 1), 1, 20 * 3);
        DUE.fraction("21: NUMBER there", x.mean(0, 2, 1, 0), x.mean(0, 2, 1, 1), 4, 5);
        DUE.fraction("21: WAIT there", x.mean(1, 4, 2, 0), x.mean(1, 4, 2, 1), 48, 5);
    }

    private static void tell(PalletRounds x, int sheet, int sort, long... v) {
        x.sheet(sheet, sort, v.length);
        for (int i = 0; i < v.length; i++) x.put(sheet, i, v[i]);
    }

    private static void promise17Odds() {
        PalletRounds x = pairOfStations(1, 2, 2, 3, 5, 7);
        x.parts(0, 1);
        x.parts(1, 1);
        for (int sort = 0; sort < 3; sort++) {
            tell(x, sort, sort, 1, 0, 1, 0);
            DUE.fraction("17: both at 0", x.odds(sort, 0), x.odds(sort, 1), 4, 37);
            tell(x, sort, sort, 1, 0, 0, 1);
            DUE.fraction("17: apart", x.odds(sort, 0), x.odds(sort, 1), 14, 111);
            tell(x, sort, sort, 0, 1, 0, 1);
            DUE.fraction("17: both at 1", x.odds(sort, 0), x.odds(sort, 1), 70, 111);
        }
        long[][] none = {{1, 1, 0, 1}, {0, 0, 0, 1}, {2, -1, 0, 1}, {1, 0, 1}, {1, 0, 0, 1, 0}, {}, {1L << 32, 1, 0, 1},
            {1 + (1L << 32), 0, 0, 1}, {Long.MIN_VALUE, 1, 0, 1}, {1, 0, Long.MAX_VALUE, Long.MAX_VALUE}};
        for (long[] v : none) {
            tell(x, 3, 0, v);
            DUE.is("17: it tells none", x.odds(3, 0), NO);
        }
        tell(x, 3, 0, 1, 0, 0, 1);
        DUE.is("17: odds(3, 2)", x.odds(3, 2), NO);
        DUE.is("17: odds(3, -1)", x.odds(3, -1), NO);
        DUE.is("17: odds(4, 0)", x.odds(4, 0), NO);
        DUE.is("17: odds(-1, 0)", x.odds(-1, 0), NO);
        x.sheet(3, -1, 0);
        DUE.is("17: missing", x.odds(3, 0), NO);
        x.station(0, 1, 1);
        tell(x, 3, 0, 1, 0, 0, 0, 1, 0);
        DUE.fraction("17: a STATION that nobody visits", x.odds(3, 0), x.odds(3, 1), 14, 111);
        tell(x, 3, 0, 0, 0, 1, 0, 1, 0);
        DUE.is("17: somebody there is no STATE", x.odds(3, 0), NO);
        x.parts(1, 0);
        tell(x, 3, 0, 1, 0, 0, 0, 0, 0);
        DUE.fraction("17: CLASS 0 alone", x.odds(3, 0), x.odds(3, 1), 2, 7);
        x.home(0, 2);
        DUE.is("17: not SOUND", x.odds(3, 0), NO);
    }

    private static void promise18Likely() {
        PalletRounds x = pairOfStations(1, 3, 2, 9, 5, 1);
        DUE.is("18: likely(2, 0)", x.likely(2, 0), BAD);
        DUE.is("18: likely(-1, 0)", x.likely(-1, 0), BAD);
        DUE.is("18: likely(0, 2)", x.likely(0, 2), BAD);
        DUE.is("18: likely(0, -1)", x.likely(0, -1), BAD);
        DUE.is("18: nobody", x.likely(0, 0), 0);
        x.parts(0, 3);
        x.becomes(1, 1);
        DUE.is("18: where DEMAND is greatest", x.likely(0, 1), 3);
        DUE.is("18: nobody elsewhere", x.likely(0, 0), 0);
        x.time(0, 0, 8);
        DUE.is("18: after a change", x.likely(0, 0), 3);
        x.becomes(0, 3);
        // at the WALK with 8: 8^3/6 < 85.4, 8^2/2 * 5 = 160, 8 * 25 = 200, 125
        DUE.is("18: a WALK", x.likely(0, 0), 1);
        x.route(0, 1, 0, 0);
        DUE.is("18: not SOUND", x.likely(0, 0), STATE);
        DUE.is("18: BAD before STATE", x.likely(0, 2), BAD);
    }

    private static void promise18Ties() {
        PalletRounds x = pairOfStations(0, 1, 3, 3, 3, 3);
        x.parts(0, 2);
        DUE.is("18: of several most at STATION 0", x.likely(0, 0), 2);
        x.parts(1, 2);
        // all at one STATION: 24 * 81 over 2! 2!
        DUE.is("18: of both CLASSES", x.likely(0, 0) * 10 + x.likely(1, 0), 22);
        x.becomes(0, 3);
        x.becomes(1, 3);
        x.parts(0, 3);
        x.parts(1, 1);
        // two and one or one and two, the other anywhere
        DUE.is("18: most of CLASS 0 at STATION 0", x.likely(0, 0), 2);
        DUE.is("18: then of CLASS 1", x.likely(1, 0), 1);
        x.parts(0, 1);
        x.becomes(0, 0);
        x.becomes(1, 0);
        x.time(0, 0, 1);
        x.time(1, 0, 1);
        x.parts(1, 0);
        DUE.is("18: one of CLASS 0", x.likely(0, 0), 1);
        threeWalks();
    }

    /** Two PARTS over three WALKS alike: apart they weigh most, and STATIONS 0 and 1 come first. */
    private static void threeWalks() {
        PalletRounds x = new PalletRounds();
        for (int s = 0; s < 3; s++) x.station(3, 2, 2);
        for (int s = 0; s < 3; s++) {
            x.route(0, s, (s + 1) % 3, 1);
            x.route(1, s, (s + 1) % 3, 1);
        }
        x.home(0, 2);
        x.home(1, 1);
        x.parts(0, 2);
        x.parts(1, 1);
        int[] want = {1, 1, 0, 1, 0, 0};
        for (int i = 0; i < 6; i++) DUE.is("18: three WALKS, " + i, x.likely(i / 3, i % 3), want[i]);
    }

    private static void promise19Film() {
        PalletRounds x = pairOfStations(1, 2, 2, 7, 5, 3);
        x.parts(0, 2);
        x.parts(1, 3);
        DUE.is("19: film(4)", x.film(4), BAD);
        DUE.is("19: film(-1)", x.film(-1), BAD);
        DUE.is("19: film(3)", x.film(3), 4);
        DUE.is("19: five items are too many", x.item(3, 4), NO);
        for (int i = 0; i < 4; i++) DUE.is("19: item " + i, x.item(3, i), x.likely(i / 2, i % 2));
        DUE.is("19: it holds ints", x.put(3, 0, 1L << 32 | 5), 1);
        DUE.is("19: its lowest 32 bits", x.item(3, 0), 5);
        x.sheet(2, 0, 40);
        DUE.is("19: another sort and size before", x.film(2), 4);
        DUE.is("19: it truly becomes ints", x.copy(2, 0, 3, 0, 4), 4);
        DUE.is("19: it tells a STATE", x.odds(2, 0) > 0 ? 1 : 0, 1);
        x.sheet(1, 2, 3);
        x.put(1, 0, 9);
        x.route(0, 1, 0, 0);
        DUE.is("19: not SOUND", x.film(1), STATE);
        DUE.is("19: nothing changed", x.item(1, 0), 9);
        DUE.is("19: BAD before STATE", x.film(4), BAD);
        PalletRounds empty = new PalletRounds();
        DUE.is("19: no STATIONS, no numbers", empty.film(0), 0);
        DUE.is("19: yet a row", empty.put(0, 0, 0), -12);
    }
}
