/** Promises 20 to 24: rates, numbers, waits. */
public final class RatesTest {
    private static final Due DUE = new Due();
    private static final int NONE = PalletRounds.NONE, BAD = PalletRounds.BAD, STATE = PalletRounds.STATE;
    private static final long NO = PalletRounds.NO;

    public static void main(String[] args) {
        promise20Rate();
        promise20Limits();
        promise20Refusals();
        promise21Mean();
        promise22Busy();
        promise23Narrow();
        promise24Swift();
        promise24InALine();
        DUE.end();
    }

    /** One PART of each CLASS. WEIGHTS: both at 0: 12, both at 1: 70, CLASS 0 at 0: 14, CLASS 1 at 0: 15; in all 111. */
    private static PalletRounds oneOfEach() {
        PalletRounds x = StatesTest.pairOfStations(1, 2, 2, 3, 5, 7);
        x.parts(0, 1);
        x.parts(1, 1);
        return x;
    }

    private static void rateIs(String about, PalletRounds x, int part, int what, long above, long below) {
        DUE.fraction("20: " + about, x.rate(part, what, 0), x.rate(part, what, 1), above, below);
    }

    private static void promise20Rate() {
        PalletRounds x = oneOfEach();
        rateIs("of CLASS 0", x, 0, 0, 10, 111);
        rateIs("of CLASS 1", x, 1, 0, 7, 111);
        rateIs("CLASS 0 alone", x, 0, 1, 1, 7);
        rateIs("CLASS 1 alone", x, 1, 1, 1, 10);
        // CONSTANT of 2 and 1: 525 + 75 + 140 + 60 + 28 + 36 = 864
        rateIs("one more of CLASS 0", x, 0, 2, 37, 288);
        x.parts(1, 0);
        rateIs("without PARTS", x, 1, 0, 0, 1);
        rateIs("without PARTS, alone", x, 1, 1, 0, 1);
        DUE.is("20: one more of none", x.rate(1, 2, 0), NO);
        DUE.is("20: ABOVE of none", x.rate(1, 3, 0), NO);
        DUE.is("20: BELOW of none", x.rate(1, 4, 0), NO);
        x.parts(0, 5);
        DUE.is("20: a sixth", x.rate(0, 2, 0) == NO ? 0 : 1, 1);
        x.parts(1, 2);
        DUE.is("20: an eighth", x.rate(0, 2, 0) == NO ? 0 : 1, 1);
        x.parts(1, 3);
        DUE.is("20: a ninth", x.rate(0, 2, 0), NO);
        DUE.is("20: a ninth, of the other", x.rate(1, 2, 0), NO);
        x.parts(1, 0);
        x.parts(0, 6);
        DUE.is("20: a seventh of a CLASS", x.rate(0, 2, 0), NO);
        x.parts(1, 1);
        DUE.is("20: one more of the other", x.rate(1, 2, 0) == NO ? 0 : 1, 1);
    }

    private static void promise20Limits() {
        PalletRounds x = oneOfEach();
        rateIs("ABOVE, one PART", x, 0, 3, 1, 7);
        rateIs("BELOW, one PART", x, 0, 4, 1, 7);
        x.parts(0, 3);
        rateIs("ABOVE, three PARTS", x, 0, 3, 1, 5);
        rateIs("BELOW, three PARTS", x, 0, 4, 1, 7);
        x.becomes(1, 3);
        rateIs("ABOVE, a WALK", x, 0, 3, 3, 7);
        rateIs("BELOW, a WALK", x, 0, 4, 3, 11);
        x.parts(0, 6);
        rateIs("ABOVE, six PARTS", x, 0, 3, 1, 2);
        rateIs("BELOW, six PARTS", x, 0, 4, 6, 17);
        x.becomes(0, 3);
        rateIs("ABOVE, WALKS alone", x, 0, 3, 6, 7);
        rateIs("BELOW, WALKS alone", x, 0, 4, 6, 7);
        rateIs("ABOVE of CLASS 1", x, 1, 3, 1, 10);
    }

    private static void promise20Refusals() {
        PalletRounds x = oneOfEach();
        int[][] wrong = {{2, 0, 0}, {-1, 0, 0}, {0, 5, 0}, {0, -1, 0}, {0, 0, 2}, {0, 0, -1}};
        for (int[] w : wrong) DUE.is("20: a wrong number", x.rate(w[0], w[1], w[2]), NO);
        x.route(1, 1, 0, 0);
        for (int what = 0; what < 5; what++) DUE.is("20: not SOUND", x.rate(0, what, 0), NO);
    }

    private static void promise21Mean() {
        PalletRounds x = oneOfEach();
        DUE.fraction("21: PASSES", x.mean(0, 1, 0, 0), x.mean(0, 1, 0, 1), 10, 111);
        DUE.fraction("21: NUMBER", x.mean(0, 0, 1, 0), x.mean(0, 0, 1, 1), 26, 111);
        DUE.fraction("21: WAIT", x.mean(0, 0, 2, 0), x.mean(0, 0, 2, 1), 13, 5);
        DUE.fraction("21: NUMBER of CLASS 1", x.mean(1, 1, 1, 0), x.mean(1, 1, 1, 1), 28, 37);
        DUE.fraction("21: WAIT of CLASS 1", x.mean(1, 1, 2, 0), x.mean(1, 1, 2, 1), 12, 1);
        int[][] wrong = {{2, 0, 0, 0}, {-1, 0, 0, 0}, {0, 2, 0, 0}, {0, -1, 0, 0}, {0, 0, 3, 0}, {0, 0, -1, 0}, {0, 0, 0, 2},
            {0, 0, 0, -1}};
        for (int[] w : wrong) DUE.is("21: a wrong number", x.mean(w[0], w[1], w[2], w[3]), NO);
        x.route(0, 0, 0, 1);
        DUE.is("21: two VISITS", x.visits(0, 0, 0), 2);
        // DEMANDS 4 and 5: CONSTANTS 24 + 70 + 28 + 15 = 137 and 10
        DUE.fraction("21: PASSES of two VISITS", x.mean(0, 0, 0, 0), x.mean(0, 0, 0, 1), 20, 137);
        DUE.fraction("21: NUMBER of two VISITS", x.mean(0, 0, 1, 0), x.mean(0, 0, 1, 1), 52, 137);
        DUE.fraction("21: WAIT of two VISITS", x.mean(0, 0, 2, 0), x.mean(0, 0, 2, 1), 13, 5);
        x.station(1, 1, 1);
        DUE.fraction("21: PASSES of no VISITS", x.mean(0, 2, 0, 0), x.mean(0, 2, 0, 1), 0, 1);
        DUE.fraction("21: NUMBER of no VISITS", x.mean(0, 2, 1, 0), x.mean(0, 2, 1, 1), 0, 1);
        DUE.is("21: WAIT of no VISITS", x.mean(0, 2, 2, 0), NO);
        x.parts(1, 0);
        x.route(1, 0, 2, 1);
        DUE.fraction("21: PASSES of nobody", x.mean(1, 0, 0, 0), x.mean(1, 0, 0, 1), 0, 1);
        DUE.fraction("21: NUMBER of nobody", x.mean(1, 0, 1, 0), x.mean(1, 0, 1, 1), 0, 1);
        DUE.is("21: WAIT of nobody", x.mean(1, 0, 2, 0), NO);
        x.parts(1, 1);
        for (int what = 0; what < 3; what++) DUE.is("21: not SOUND", x.mean(0, 0, what, 0), NO);
    }

    private static void promise22Busy() {
        PalletRounds x = oneOfEach();
        DUE.fraction("22: busy(0)", x.busy(0, 0), x.busy(0, 1), 41, 111);
        DUE.fraction("22: busy(1)", x.busy(1, 0), x.busy(1, 1), 33, 37);
        DUE.is("22: busy(2, 0)", x.busy(2, 0), NO);
        DUE.is("22: busy(-1, 0)", x.busy(-1, 0), NO);
        DUE.is("22: busy(0, 2)", x.busy(0, 2), NO);
        DUE.is("22: busy(0, -1)", x.busy(0, -1), NO);
        x.station(3, 1, 1);
        x.station(0, 1, 1);
        DUE.is("22: a WALK", x.busy(2, 0), NO);
        DUE.fraction("22: never busy", x.busy(3, 0), x.busy(3, 1), 0, 1);
        x.parts(0, 0);
        x.route(0, 0, 2, 1);
        DUE.fraction("22: of CLASS 1 alone", x.busy(0, 0), x.busy(0, 1), 3, 10);
        x.parts(0, 1);
        DUE.is("22: not SOUND", x.busy(0, 0), NO);
    }

    private static void promise23Narrow() {
        PalletRounds x = new PalletRounds();
        DUE.is("23: no STATIONS", x.narrow(), NONE);
        x.station(3, 1, 1);
        DUE.is("23: WALKS alone", x.narrow(), NONE);
        x.parts(0, 1);
        DUE.is("23: not SOUND", x.narrow(), STATE);
        x = oneOfEach();
        DUE.is("23: the busier", x.narrow(), 1);
        x.becomes(1, 3);
        DUE.is("23: a WALK is none", x.narrow(), 0);
        x.becomes(1, 1);
        x.time(1, 0, 2);
        x.time(1, 1, 3);
        DUE.is("23: of several the least number", x.narrow(), 0);
        x.parts(0, 0);
        x.parts(1, 0);
        x.becomes(0, 3);
        DUE.is("23: nobody", x.narrow(), 1);
        x.parts(0, 1);
        x.route(0, 1, 0, 0);
        DUE.is("23: not SOUND any more", x.narrow(), STATE);
    }

    private static void promise24Swift() {
        PalletRounds x = oneOfEach();
        DUE.is("24: swift(2)", x.swift(2), BAD);
        DUE.is("24: swift(-1)", x.swift(-1), BAD);
        DUE.is("24: where DEMAND is greatest", x.swift(0), 1);
        DUE.is("24: nothing has changed", x.told(1, 1), 5);
        DUE.fraction("24: nor RATE", x.rate(0, 0, 0), x.rate(0, 0, 1), 10, 111);
        DUE.fraction("24: nor NUMBER", x.mean(0, 0, 1, 0), x.mean(0, 0, 1, 1), 26, 111);
        x.time(1, 0, 1);
        DUE.is("24: TIME 1 can't be less", x.swift(0), 0);
        x.time(0, 0, 1);
        DUE.is("24: there is none such", x.swift(0), NONE);
        x.time(0, 0, 4);
        x.time(1, 0, 4);
        x.time(0, 1, 3);
        x.time(1, 1, 3);
        DUE.is("24: of several the least number", x.swift(0), 0);
        x.parts(1, 0);
        DUE.is("24: without PARTS", x.swift(1), STATE);
        x.time(0, 0, 2);
        x.time(1, 0, 1);
        x.station(1, 9, 9);
        DUE.is("24: not one that nobody visits", x.swift(0), 0);
        x.time(0, 0, 1);
        DUE.is("24: unless there is no other", x.swift(0), 2);
        x.route(0, 1, 0, 0);
        DUE.is("24: not SOUND", x.swift(0), STATE);
        DUE.is("24: BAD before STATE", x.swift(2), BAD);
    }

    private static void promise24InALine() {
        PalletRounds x = StatesTest.pairOfStations(0, 1, 1, 9, 1, 2);
        x.parts(0, 2);
        x.parts(1, 2);
        DUE.is("24: in a LINE TIME of CLASS 0 is 1", x.swift(1), 1);
        x.time(1, 1, 1);
        DUE.is("24: none for CLASS 1", x.swift(1), NONE);
        x.time(0, 0, 2);
        x.time(0, 1, 1);
        DUE.is("24: in a LINE TIME of CLASS 1 counts not", x.swift(1), 0);
        forBothInALine();
    }

    /** All DEMANDS are 2. One less for CLASS 0 alone: RATE 4 over 18; for both, as in a LINE: 3 over 14, which is less. */
    private static void forBothInALine() {
        PalletRounds x = StatesTest.pairOfStations(0, 1, 2, 9, 2, 2);
        x.parts(0, 1);
        x.parts(1, 1);
        DUE.is("24: for both in a LINE", x.swift(0), 1);
        x.becomes(1, 0);
        DUE.is("24: two LINES", x.swift(0), 0);
        x.becomes(0, 2);
        x.time(0, 1, 2);
        DUE.is("24: in a SHARE for its own", x.swift(0), 0);
        x.parts(1, 0);
        x.becomes(0, 0);
        DUE.is("24: alone in a LINE", x.swift(0), 0);
    }
}
