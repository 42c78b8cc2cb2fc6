/** The document's sentences that name a bound: at the bound, one beyond it, with nothing there, with all full. */
public final class BoundsTest {
    private static final Due DUE = new Due();
    private static final String PAIR = "station 1 1 1; station 1 1 1; route 0 0 1 1; route 0 1 0 1; route 1 0 1 1; "
        + "route 1 1 0 1; home 0 0; home 1 0";

    public static void main(String[] args) {
        calls512();
        stationsAndKinds();
        times();
        classesAtFirst();
        partsTogether();
        allRoutes();
        lowestTerms();
        reaches();
        goesRound();
        leastVisits();
        demandOf20();
        oneStationWeights();
        constantBounds();
        partsThatAreNot();
        oneMore();
        limits();
        narrowAndTies();
        toldStates();
        swiftBounds();
        turnsAndWhere();
        drawBounds();
        earnedBounds();
        whatEnds();
        whatEndsNot();
        images();
        sheetSizes();
        layBounds();
        DUE.end();
    }

    private static void is(String about, PalletRounds x, String... lines) {
        Script.run(DUE, about, x, lines);
    }

    private static void isNew(String about, String... lines) {
        is(about, new PalletRounds(), lines);
    }

    /** 'An object is used for at most 512 calls': the last one is answered as the first. */
    private static void calls512() {
        PalletRounds x = Script.made("station 3 1 1; route 0 0 0 1; route 1 0 0 1; home 0 0; home 1 0; parts 0 4; parts 1 4",
            "pay 0 3; begin");
        int calls = 9;
        while (calls < 509) {
            is("turn", x, "turn 60 = 480");
            calls++;
        }
        is("512 calls", x, "count 4 = 30000; passed 0 0 = 120000; earned = 360000");
        PalletRounds y = new PalletRounds();
        for (int i = 0; i < 511; i++) is("no seed is refused", y, "seed 1 = 1");
        is("the 512th call", y, "station 0 1 1 = 0");
    }

    private static void stationsAndKinds() {
        isNew("1: STATIONS 0 .. 4", "count 0 = 0; station 0 1 1 = 0; station 1 1 1 = 1; station 2 1 1 = 2; station 3 1 1 = 3",
            "time 4 0 1 = BAD; told 4 0 = BAD; home 0 4 = BAD; route 0 4 0 1 = BAD; route 0 0 4 1 = BAD; becomes 4 0 = BAD",
            "count 0 = 4; station 0 1 1 = 4; count 0 = 5; time 4 0 1 = 1; told 4 0 = 0; home 0 4 = NONE; route 0 4 4 1 = 0",
            "station 0 1 1 = FULL; count 0 = 5; time 5 0 1 = BAD; told 5 0 = BAD; home 0 5 = BAD; stands 5 0 = BAD",
            "stands 4 0 = NONE; passed 0 5 = BAD; passed 0 4 = 0; likely 0 5 = BAD; likely 0 4 = 0; becomes 5 0 = BAD");
        isNew("1: KIND 0 .. 3", "station -1 1 1 = BAD; station 4 1 1 = BAD; count 0 = 0; station 3 1 1 = 0; station 0 1 1 = 1",
            "becomes 0 4 = BAD; becomes 0 -1 = BAD; becomes 0 3 = 3; becomes 0 0 = 3; becomes 0 1 = 0; becomes 0 2 = 1",
            "told 0 0 = 2");
        isNew("2: which STATION's", "station 0 1 2; station 1 3 4; station 2 5 6; station 3 7 8; station 0 9 1",
            "told 0 1 = 1; told 0 2 = 2; told 1 1 = 3; told 1 2 = 4; told 2 1 = 5; told 2 2 = 6; told 3 1 = 7",
            "told 3 2 = 8",
            "told 4 1 = 9; told 4 2 = 1; told 0 0 = 0; told 1 0 = 1; told 2 0 = 2; told 3 0 = 3; told 4 0 = 0");
    }

    private static void times() {
        isNew("1: TIME 1 .. 9", "station 0 0 1 = BAD; station 0 10 1 = BAD; station 0 1 0 = BAD; station 0 1 10 = BAD",
            "station 0 1 9 = 0; station 1 9 1 = 1; time 0 0 0 = BAD; time 0 0 10 = BAD; time 0 1 0 = BAD; time 0 1 10 = BAD",
            "time 0 0 9 = 1; time 0 0 1 = 9; time 0 1 1 = 9; time 0 1 9 = 1; time 1 1 9 = 1; told 1 1 = 9; told 1 2 = 9");
        // In all but a LINE each CLASS has its own.
        int[] demand = {2, 5, 5, 5};
        for (int kind = 0; kind < 4; kind++) {
            PalletRounds x = Script.made("station " + kind + " 2 5; route 1 0 0 1; home 1 0; parts 1 1; begin");
            is("1: in a LINE both have that of CLASS 0, KIND " + kind, x, "visits 1 0 1 = " + demand[kind],
                "where 0 1 = " + demand[kind] + "; rate 1 0 1 = " + demand[kind] + "; told 0 1 = 2; told 0 2 = 5",
                "time 0 1 1 = 5",
                "visits 1 0 1 = " + (kind == 0 ? 2 : 1) + "; time 0 0 9 = 2; visits 1 0 1 = " + (kind == 0 ? 9 : 1));
        }
    }

    private static void classesAtFirst() {
        isNew("1: at first", "of 0 0 = NONE; of 1 0 = NONE; of 0 1 = 0; of 1 1 = 0; of 0 2 = 0; of 0 3 = 0; of 1 3 = 0",
            "pay 0 4 = 0; pay 1 4 = 0; seed 4 = 1; count 0 = 0; count 1 = 0; count 2 = 0; count 3 = 0; count 4 = 0",
            "count 5 = 0");
        isNew("1: CLASSES 0, 1", "station 1 1 1; home -1 0 = BAD; home 2 0 = BAD; home 0 0 = NONE; home 1 0 = NONE",
            "parts -1 1 = BAD; parts 2 1 = BAD; parts 1 1 = 0; parts 0 1 = 0; of -1 1 = BAD; of 2 1 = BAD; of 1 1 = 1",
            "pay -1 1 = NO; pay 2 1 = NO; route 2 0 0 1 = BAD; route -1 0 0 1 = BAD; route 1 0 0 1 = 0; route 0 0 0 1 = 0");
        isNew("1: PAY is a long", "pay 0 MOST = 0; pay 0 LEAST = MOST; pay 0 0 = LEAST; pay 1 LEAST = 0; pay 1 MOST = LEAST",
            "pay 1 NO = MOST; pay 1 1 = NO");
    }

    private static void partsTogether() {
        isNew("1: PARTS 0 .. 6", "parts 0 -1 = BAD; parts 0 7 = BAD; count 1 = 0; parts 0 6 = 0; parts 0 0 = 6; parts 1 6 = 0",
            "parts 1 7 = BAD; parts 1 -1 = BAD; of 1 1 = 6; parts 1 0 = 6");
        isNew("1: both together 8 at most", "parts 0 2; parts 1 6 = 0; parts 0 3 = FULL; parts 0 6 = FULL; parts 0 7 = BAD",
            "count 1 = 8; parts 0 2 = 2; parts 1 5 = 6; parts 0 3 = 2; parts 0 4 = FULL; parts 1 4 = 5; parts 0 4 = 3",
            "parts 0 5 = FULL; parts 1 5 = FULL; parts 0 0 = 4; parts 1 6 = 4; count 1 = 6; parts 0 2 = 0; parts 0 -1 = BAD",
            "count 1 = 8");
    }

    private static void allRoutes() {
        PalletRounds x = Script.made("station 1 1 1; station 1 1 1; station 1 1 1; station 1 1 1; station 1 1 1");
        int above = 0;
        for (int turn = 0; turn < 3; turn++) {
            for (int i = 0; i < 50; i++) {
                int was = turn == 0 ? 0 : (i * 7 + turn - 1) % 10;
                int now = (i * 7 + turn) % 10;
                is("5: its own weight", x, "route " + i / 25 + " " + i / 5 % 5 + " " + i % 5 + " " + now + " = " + was);
                if (turn == 2 && now > 0) above++;
            }
        }
        is("34: ROUTES above 0", x, "count 2 = " + above + "; route 0 0 0 -1 = BAD; route 0 0 0 10 = BAD; count 2 = " + above);
        isNew("5: weights 0 .. 9", "station 1 1 1; route 0 0 0 9 = 0; route 0 0 0 10 = BAD; route 0 0 0 0 = 9; count 2 = 0",
            "route 0 0 0 -1 = BAD; route 0 0 0 1 = 0; count 2 = 1; route 0 0 1 1 = BAD; route 0 1 0 1 = BAD; count 2 = 1");
    }

    /** Each answer that is a fraction, where above and below share a divisor, and where it is 0. */
    private static void lowestTerms() {
        PalletRounds x = Script.made("station 1 6 6; station 3 4 4; station 2 9 9; route 0 0 1 1; route 0 1 0 1; home 0 0",
            "route 1 2 2 1; home 1 2; parts 0 2; parts 1 1; sheet 0 1 6; put 0 0 2; put 0 5 1");
        // CLASS 0: 36 + 24 + 8 = 68, one less 10; CLASS 1: 9.
        is("1: in lowest terms", x, "constant 2 0 3 0 = 68; constant 2 0 3 1 = 1; constant 2 1 3 0 = 612",
            "constant 3 0 3 0 = 1256; constant 3 0 3 1 = 3; constant 3 0 1 0 = 216; constant 3 0 1 1 = 1",
            "odds 0 0 = 9; odds 0 1 = 17; rate 0 0 0 = 5; rate 0 0 1 = 34; rate 0 2 0 = 51; rate 0 2 1 = 314; rate 0 1 0 = 5",
            "rate 0 3 0 = 1; rate 0 3 1 = 6; rate 0 4 0 = 1; rate 0 4 1 = 8; rate 1 0 0 = 1; rate 1 0 1 = 9",
            "mean 0 0 0 0 = 5; mean 0 0 0 1 = 34; mean 0 0 1 0 = 24; mean 0 0 1 1 = 17; mean 0 0 2 0 = 48; mean 0 0 2 1 = 5",
            "busy 0 0 = 15; busy 0 1 = 17; busy 2 0 = 1; busy 2 1 = 1");
        is("1: 0 is 0 over 1", x, "constant 1 0 0 0 = 0; constant 1 0 0 1 = 1; constant 0 1 2 0 = 0; constant 0 1 2 1 = 1",
            "mean 1 0 0 0 = 0; mean 1 0 0 1 = 1; mean 1 0 1 0 = 0; mean 1 0 1 1 = 1; mean 0 2 1 0 = 0; mean 0 2 1 1 = 1",
            "parts 0 0 = 2; rate 0 0 0 = 0; rate 0 0 1 = 1; rate 0 1 0 = 0; rate 0 1 1 = 1; busy 0 0 = 0; busy 0 1 = 1");
    }

    private static void reaches() {
        PalletRounds x = Script.made("station 1 1 1; station 1 1 1; station 1 1 1; station 1 1 1; station 1 1 1");
        is("1: none without HOME", x, "route 0 4 3 1; route 0 3 2 9; route 0 2 1 1; route 0 1 0 1; of 0 3 = 0; of 0 2 = 0");
        is("1: by ROUTES, onward alone", x, "home 0 0; of 0 3 = 1; home 0 1; of 0 3 = 3; home 0 3; of 0 3 = 15; home 0 4",
            "of 0 3 = 31");
        is("1: of a weight above 0", x, "route 0 2 1 0 = 1; of 0 3 = 28; route 0 2 1 1 = 0; of 0 3 = 31; of 1 3 = 0",
            "home 1 2; of 1 3 = 4");
    }

    private static void goesRound() {
        PalletRounds x = Script.made("station 1 1 1; station 1 1 1; station 1 1 1; station 1 1 1; station 1 1 1");
        is("1: HOME alone", x, "of 0 2 = 0; home 0 2; of 0 2 = 0; visits 0 2 0 = NO; route 0 2 2 1; of 0 2 = 1",
            "visits 0 2 0 = 1");
        is("1: five ROUTES round", x, "route 0 2 2 0; route 0 2 4 1; route 0 4 1 1; route 0 1 3 1; route 0 3 0 1; of 0 2 = 0",
            "route 0 0 2 1; of 0 2 = 1; of 0 3 = 31; route 0 1 3 0; of 0 2 = 0; of 0 3 = 22; route 0 1 3 1; of 0 2 = 1");
        is("1: from each that it REACHES", x, "route 0 0 2 0; route 0 0 1 1; of 0 2 = 0; home 0 1; of 0 2 = 1; of 0 3 = 11",
            "visits 0 2 0 = 0; visits 0 4 0 = 0; visits 0 3 0 = 1");
        is("1: those that aren't REACHED do not count", x, "route 0 2 4 0; route 0 4 1 9; of 0 2 = 1; of 1 2 = 0; of 1 3 = 0");
    }

    private static void leastVisits() {
        PalletRounds x = Script.made("station 1 3 1; station 1 2 1; station 1 1 1; home 0 0",
            "route 0 0 1 6; route 0 0 2 3; route 0 1 0 8; route 0 2 0 4");
        is("1: least whole numbers", x, "visits 0 0 0 = 3; visits 0 1 0 = 2; visits 0 2 0 = 1",
            "visits 0 0 1 = 9; visits 0 1 1 = 4; visits 0 2 1 = 1; route 0 2 2 4; visits 0 0 0 = 3; visits 0 1 0 = 2",
            "visits 0 2 0 = 2");
        is("1: the same from another HOME", x, "home 0 2; visits 0 0 0 = 3; visits 0 1 0 = 2; visits 0 2 0 = 2");
        is("1: to itself alone", x, "route 0 2 0 0; visits 0 2 0 = 1; visits 0 0 0 = 0; visits 0 1 1 = 0; home 0 0",
            "visits 0 0 0 = NO");
        is("1: 0 of those that it doesn't REACH", x, "station 3 9 9; route 0 3 0 9; route 0 2 0 1; visits 0 3 0 = 0",
            "visits 0 3 1 = 0");
    }

    /** The STATION goes on to itself w of w + 1 times: VISITS w + 1 and 1. */
    private static void demandOf20() {
        int[][] cases = {{4, 4, 1}, {4, 5, 0}, {6, 3, 0}, {6, 2, 1}, {2, 7, 0},
            {2, 6, 1}, {3, 5, 1}, {9, 2, 1}, {9, 3, 0}, {1, 9, 1}};
        for (int part = 0; part < 2; part++) {
            for (int kind = 0; kind < 4; kind++) {
                for (int[] c : cases) {
                    int t0 = part == 0 || kind == 0 ? c[1] : 1;
                    int t1 = part == 1 && kind != 0 ? c[1] : 9;
                    PalletRounds x = Script.made("station " + kind + " " + t0 + " " + t1 + "; station 1 1 1",
                        "route " + part + " 0 0 " + c[0] + "; route " + part + " 0 1 1; route " + part + " 1 0 1",
                        "home " + part + " 1");
                    is("15: DEMAND " + (c[0] + 1) * c[1], x, "sound = 1; visits " + part + " 0 1 = " + (c[0] + 1) * c[1],
                        "parts " + part + " 1; sound = " + c[2] + "; parts " + part + " 0; sound = 1");
                }
            }
        }
        isNew("15: no CLASS has PARTS", "sound = 1; station 0 1 1; sound = 1; home 0 0; sound = 1; parts 0 1; sound = 0",
            "route 0 0 0 1; sound = 1; parts 1 1; sound = 0; route 1 0 0 1; sound = 0; home 1 0; sound = 1; parts 0 0",
            "sound = 1");
    }

    /** a of CLASS 0 (DEMAND 2) and b of CLASS 1 (DEMAND 3) at one STATION, where all of them are. */
    private static void oneStationWeights() {
        long[] factorials = {1, 1, 2, 6, 24, 120, 720, 5040, 40320};
        for (int kind = 0; kind < 4; kind++) {
            PalletRounds x = Script.made("station " + kind + " 2 3; route 0 0 0 1; route 1 0 0 1; home 0 0; home 1 0",
                "parts 0 4; parts 1 4");
            int d1 = kind == 0 ? 2 : 3;
            for (int a = 0; a <= 6; a++) {
                for (int b = 0; b <= 6; b++) {
                    Frac w = Frac.of((long) (Math.pow(2, a) * Math.pow(d1, b))).over(Frac.of(factorials[a] * factorials[b]));
                    if (kind != 3 && a + b <= 8) w = w.times(Frac.of(factorials[a + b]));
                    String call = "constant " + a + " " + b + " 1 ";
                    is("2: KIND " + kind, x, call + "0 = " + (a + b > 8 ? "NO" : "" + w.told(0)),
                        call + "1 = " + (a + b > 8 ? "NO" : "" + w.told(1)));
                }
            }
        }
    }

    private static void constantBounds() {
        PalletRounds x = Script.made(PAIR, "parts 0 1; parts 1 1; station 2 5 5");
        is("16: 6 and 8 at most", x, "constant 6 2 3 1 = 1; constant 2 6 3 1 = 1; constant 4 4 3 1 = 1; constant 7 0 3 1 = NO",
            "constant 0 7 3 1 = NO; constant 6 3 3 1 = NO; constant 3 6 3 1 = NO; constant 5 4 3 1 = NO",
            "constant -1 4 3 1 = NO",
            "constant 4 -1 3 1 = NO; constant MAX 1 3 1 = NO; constant MAX MAX 3 1 = NO; constant MIN MIN 3 1 = NO");
        is("16: the first m", x, "constant 1 1 -1 0 = NO; constant 1 1 0 0 = 0; constant 1 1 0 1 = 1; constant 1 1 1 0 = 2",
            "constant 1 1 2 0 = 6; constant 1 1 3 0 = 6; constant 1 1 4 0 = NO; constant 0 0 0 0 = 1; constant 0 0 3 0 = 1",
            "constant 0 0 4 0 = NO",
            "constant 1 1 2 2 = NO; constant 1 1 2 -1 = NO; home 0 2; constant 1 1 2 0 = NO; route 0 2 2 1",
            "constant 1 1 2 0 = 0; constant 1 1 3 0 = 10");
        isNew("16: no STATIONS", "constant 0 0 0 0 = 1; constant 0 0 0 1 = 1; constant 1 0 0 0 = NO; constant 0 1 0 0 = NO",
            "constant 0 0 1 0 = NO");
        is("16: above 0 of a CLASS without PARTS", Script.made(PAIR, "parts 1 1"), "constant 0 6 2 0 = 7",
            "constant 1 0 2 0 = NO",
            "constant 1 1 2 0 = NO; parts 1 0; constant 0 1 2 0 = NO; constant 0 0 2 0 = 1; parts 0 1; constant 6 0 2 0 = 7",
            "constant 6 1 2 0 = NO");
        // Five LINES, DEMANDS 1: choose 4 of 12, and the orders of CLASSES at 8 places.
        is("16: all full", Script.made("station 0 1 9; station 0 1 9; station 0 1 9; station 0 1 9; station 0 1 9",
            "route 0 0 1 9; route 0 1 2 9; route 0 2 3 9; route 0 3 4 9; route 0 4 0 9; home 0 3; parts 0 4",
            "route 1 0 1 9; route 1 1 2 9; route 1 2 3 9; route 1 3 4 9; route 1 4 0 9; home 1 1; parts 1 4"),
            "constant 4 4 5 0 = 34650; constant 6 2 5 0 = 13860; constant 2 6 5 0 = 13860; constant 6 2 5 1 = 1",
            "busy 4 0 = 2; busy 4 1 = 3; mean 0 4 1 0 = 4; mean 0 4 1 1 = 5; rate 0 0 0 = 1; rate 0 0 1 = 3; rate 0 2 0 = NO",
            "parts 1 3; rate 0 2 0 = 5");
    }

    /** 'RATE of a CLASS (0: it has none)', also if the other one has PARTS, also if it doesn't GO ROUND. */
    private static void partsThatAreNot() {
        PalletRounds x = Script.made(PAIR, "parts 0 3; route 1 1 0 0");
        is("20: it has none", x, "of 1 2 = 0; rate 1 0 0 = 0; rate 1 0 1 = 1; rate 1 1 0 = 0; rate 1 1 1 = 1; rate 1 2 0 = NO",
            "rate 1 3 0 = NO; rate 1 4 0 = NO; rate 1 2 1 = NO; rate 1 3 1 = NO; rate 1 4 1 = NO",
            "mean 1 0 0 0 = 0; mean 1 0 0 1 = 1; mean 1 0 1 0 = 0; mean 1 0 1 1 = 1; mean 1 0 2 0 = NO; mean 1 0 2 1 = NO",
            "likely 1 0 = 0; likely 1 1 = 0; swift 1 = STATE; visits 1 0 0 = NO");
        is("20: the other one without PARTS", x, "rate 0 0 0 = 3; rate 0 0 1 = 4; rate 0 1 0 = 3; rate 0 1 1 = 4",
            "route 1 1 0 1; parts 1 1",
            "rate 0 0 0 = 3; rate 0 0 1 = 5; rate 0 1 0 = 3; rate 0 1 1 = 4; rate 1 1 0 = 1; rate 1 1 1 = 2; count 1 = 4");
    }

    private static void oneMore() {
        PalletRounds x = Script.made(PAIR, "parts 0 5");
        is("20: a sixth", x, "rate 0 2 0 = 6; rate 0 2 1 = 7; parts 0 6; rate 0 2 0 = NO; rate 0 2 1 = NO; rate 0 0 0 = 6",
            "rate 0 3 0 = 1");
        is("20: an eighth", x, "parts 1 1; rate 1 2 0 = 2; rate 1 2 1 = 9; rate 0 2 0 = NO; parts 1 2; rate 1 2 0 = NO",
            "rate 0 2 0 = NO");
        is("20: an eighth of the first", x, "parts 0 5; parts 1 3; rate 0 2 0 = NO; rate 1 2 0 = NO; parts 1 2",
            "rate 0 2 0 = 2; rate 0 2 1 = 3",
            "rate 1 2 0 = 1; rate 1 2 1 = 3; parts 1 0; rate 1 2 0 = NO; count 1 = 5; count 3 = 0");
    }

    private static void limits() {
        PalletRounds x = Script.made("station 1 4 1; station 3 4 1; route 0 0 1 1; route 0 1 0 1; home 0 0; parts 0 1");
        is("20: ABOVE, the second is less", x, "rate 0 3 0 = 1; rate 0 3 1 = 8; rate 0 4 0 = 1; rate 0 4 1 = 8");
        is("20: both are the same", x, "parts 0 2; rate 0 3 0 = 1; rate 0 3 1 = 4; rate 0 4 0 = 1; rate 0 4 1 = 6");
        is("20: the first is less", x, "parts 0 3; rate 0 3 0 = 1; rate 0 3 1 = 4; rate 0 4 0 = 3; rate 0 4 1 = 16; time 1 0 9",
            "rate 0 3 0 = 3; rate 0 3 1 = 13; time 1 0 8; rate 0 3 0 = 1; rate 0 3 1 = 4");
        is("20: M is 0, as all are WALKS", x, "becomes 0 3; rate 0 3 0 = 1; rate 0 3 1 = 4; rate 0 4 0 = 1; rate 0 4 1 = 4");
        is("20: M is 0, as no other is visited", x, "station 0 9 9; rate 0 3 0 = 1; rate 0 3 1 = 4; rate 0 4 0 = 1",
            "rate 0 4 1 = 4");
        is("20: DEMANDS of its own CLASS alone", x, "becomes 0 1; home 1 2; route 1 2 2 1; parts 1 5; rate 0 3 1 = 4",
            "rate 0 4 1 = 20; rate 1 3 1 = 9; rate 1 4 1 = 9");
    }

    private static void narrowAndTies() {
        isNew("23: nobody, no STATIONS, WALKS alone", "narrow = NONE; station 3 1 1; narrow = NONE; station 3 9 9",
            "narrow = NONE",
            "station 2 1 1; narrow = 2; station 0 9 9; narrow = 2; becomes 2 3; narrow = 3; becomes 0 1; narrow = 0");
        PalletRounds x = Script.made(PAIR, "parts 0 2");
        is("23: of several the least number", x, "narrow = 0; time 0 0 2; narrow = 0; time 1 0 3; narrow = 1; time 0 0 3",
            "narrow = 0",
            "becomes 0 3; narrow = 1; becomes 1 3; narrow = NONE; busy 0 0 = NO; busy 1 0 = NO; becomes 1 2; busy 1 0 = 4",
            "busy 1 1 = 5; busy 0 0 = NO");
        is("18: of several that with most at STATION 0", Script.made(PAIR, "parts 0 6"),
            "likely 0 0 = 6; likely 0 1 = 0; time 1 0 2; likely 0 0 = 0; likely 0 1 = 6; likely 1 0 = 0; film 0 = 4",
            "odds 0 0 = 64; odds 0 1 = 127");
        // Of two WALKS alike with three PARTS: 2 and 1, or 1 and 2; of CLASS 1 the same.
        is("18: then of CLASS 1 likewise", Script.made(PAIR, "becomes 0 3; becomes 1 3; parts 0 3; parts 1 5"),
            "likely 0 0 = 2; likely 0 1 = 1; likely 1 0 = 3; likely 1 1 = 2");
        isNew("18: nobody", "film 0 = 0; item 0 0 = NO; put 0 0 1 = -12; odds 0 0 = 1; odds 0 1 = 1; station 1 1 1",
            "likely 0 0 = 0; film 0 = 2; item 0 0 = 0");
        is("18: five STATIONS, 8 PARTS", Script.made("station 3 4 4; station 3 4 4; station 3 4 4; station 3 4 4",
            "station 3 4 4; route 0 0 1 1; route 0 1 2 1; route 0 2 3 1; route 0 3 4 1; route 0 4 0 1; home 0 3; parts 0 4",
            "route 1 0 1 1; route 1 1 2 1; route 1 2 3 1; route 1 3 4 1; route 1 4 0 1; home 1 3; parts 1 4"),
            "likely 0 0 = 1; likely 0 3 = 1; likely 0 4 = 0; likely 1 0 = 1; likely 1 3 = 1; likely 1 4 = 0; film 3 = 10",
            "item 3 9 = 0; item 3 8 = 1; item 3 10 = NO");
    }

    private static void toldStates() {
        PalletRounds x = Script.made(PAIR, "parts 0 2; parts 1 1");
        for (int sort = 0; sort < 3; sort++) {
            is("17: twice as many as STATIONS", x, "sheet 0 " + sort + " 4; odds 0 0 = NO; put 0 0 2; odds 0 0 = NO",
                "put 0 3 1; odds 0 0 = 1; odds 0 1 = 12",
                "sheet 0 " + sort + " 3; put 0 0 2; put 0 2 1; odds 0 0 = NO; sheet 0 " + sort + " 5; put 0 0 2; put 0 2 1",
                "odds 0 0 = NO",
                "sheet 0 " + sort + " 4; put 0 0 2; put 0 2 1; odds 0 0 = 1; odds 0 1 = 4; odds 0 2 = NO; odds 0 -1 = NO",
                "put 0 0 1; odds 0 0 = NO; put 0 0 3; odds 0 0 = NO; put 0 1 -1; odds 0 0 = NO; put 0 0 2; put 0 1 0",
                "put 0 2 2; odds 0 0 = NO",
                "put 0 2 1; put 0 3 1; odds 0 0 = NO; put 0 3 -1; odds 0 0 = NO; put 0 2 2; odds 0 0 = NO");
        }
        is("17: longs that would be a STATE by their lowest bits", x, "sheet 1 0 4; put 1 0 4294967298; put 1 2 1",
            "odds 1 0 = NO; put 1 0 2; put 1 1 4294967296",
            "odds 1 0 = NO; put 1 1 LEAST; odds 1 0 = NO; put 1 0 MOST; put 1 1 3; odds 1 0 = NO; put 1 0 65538; put 1 1 0",
            "odds 1 0 = NO; put 1 0 2; odds 1 0 = 1");
        is("17: missing", x, "odds 2 0 = NO; odds 3 1 = NO; odds 4 0 = NO; odds -1 0 = NO; sheet 1 -1 0; odds 1 0 = NO",
            "sheet 1 0 0; odds 1 0 = NO");
        isNew("17: no STATIONS", "odds 0 0 = NO; sheet 0 0 0; odds 0 0 = 1; odds 0 1 = 1; sheet 0 0 1; odds 0 0 = NO",
            "sheet 0 2 0; odds 0 1 = 1; parts 0 1; odds 0 0 = NO");
        // A power of 0 is 1: nobody is where DEMAND is 0, and the WEIGHT stays.
        is("2: a power of 0", Script.made(PAIR, "station 1 5 5; station 3 5 5; parts 0 1"), "constant 1 0 2 0 = 2",
            "constant 1 0 3 0 = 2; constant 1 0 4 0 = 2",
            "sheet 0 1 8; put 0 1 1; odds 0 0 = 1; odds 0 1 = 2; put 0 1 0; put 0 2 1; odds 0 0 = NO; put 0 2 0; put 0 3 1",
            "odds 0 0 = NO; mean 0 3 1 0 = 0; mean 0 3 2 0 = NO");
    }

    private static void swiftBounds() {
        PalletRounds x = Script.made(PAIR, "parts 0 1");
        is("24: 2 or more now", x, "swift 0 = NONE; time 1 0 2; swift 0 = 1; time 0 0 2; swift 0 = 0; time 1 0 3",
            "swift 0 = 0; time 0 0 1; swift 0 = 1",
            "swift 1 = STATE; swift 2 = BAD; swift -1 = BAD; time 0 1 9; time 1 0 1; swift 0 = NONE");
        is("24: nothing stays less", x, "time 1 0 9; swift 0 = 1; told 1 1 = 9; visits 0 1 1 = 9; rate 0 0 1 = 10",
            "constant 1 0 2 0 = 10; likely 0 1 = 1; mean 0 1 1 0 = 9");
        is("24: in a LINE that of CLASS 0", Script.made(PAIR, "parts 1 2; time 0 1 9; time 1 1 1"), "swift 1 = 0",
            "becomes 0 0; swift 1 = NONE; time 0 0 2; swift 1 = 0",
            "becomes 1 0; time 1 0 9; swift 1 = 1; becomes 1 1; swift 1 = 0; time 0 1 1; swift 1 = 0; becomes 0 1",
            "swift 1 = NONE");
        // Nobody visits STATION 2: its TIME one less changes nothing, and that is the greatest where no other can be less.
        is("24: a STATION that isn't visited", Script.made(PAIR, "station 1 9 9; parts 0 2"), "swift 0 = 2; time 1 0 2",
            "swift 0 = 1; time 1 0 1; time 2 0 1; swift 0 = NONE");
        is("24: of several the least number", Script.made(PAIR, "parts 0 3; parts 1 3; time 0 0 2",
            "time 1 0 2"), "swift 0 = 0; becomes 0 3; becomes 1 3; swift 0 = 0; becomes 1 1; swift 0 = 1");
        is("24: one that isn't visited comes behind", Script.made("station 1 9 9; station 1 2 2; route 0 1 1 1; home 0 1",
            "parts 0 1"), "swift 0 = 1; time 1 0 1; swift 0 = 0");
    }

    private static void turnsAndWhere() {
        PalletRounds x = Script.made(PAIR, "parts 0 6; parts 1 2");
        is("26: nothing is BEGUN", x, "turn 1 = STATE; turn 60 = STATE; turn 0 = BAD; turn 61 = BAD; count 4 = 0",
            "where 0 0 = -12; stands 0 0 = NONE; taken 0 0 = 0");
        is("25: all full", x, "begin = 8; count 3 = 8; taken 0 0 = 8; stands 0 7 = 7; stands 0 8 = NONE; stands 0 -1 = NONE",
            "stands 1 0 = NONE; stands 2 0 = BAD",
            "where 7 0 = 0; where 7 2 = 7; where 8 0 = -12; where -1 0 = -12; where 8 3 = BAD; where 0 -1 = BAD",
            "where 0 3 = BAD; where 0 2 = 0");
        is("26: n 1 .. 60", x, "turn 0 = BAD; turn 61 = BAD; turn -1 = BAD; turn MIN = BAD; turn MAX = BAD; count 4 = 0",
            "turn 1 = 1; count 4 = 1; turn 60 = 120; count 4 = 61");
        int seed = 1;
        for (int draw = 0; draw < 121; draw++) seed = seed * 1103515245 + 12345;
        is("25: again", x, "begin = 8; count 4 = 0; passed 1 0 = 0; where 7 2 = 7; stands 1 0 = NONE; seed 1 = " + seed);
        isNew("25: nobody", "begin = 0; turn 1 = 0; turn 60 = 0; count 4 = 61; count 3 = 0; where 0 0 = -12; seed 1 = 1",
            "station 0 1 1; count 4 = 0; turn 1 = STATE",
            "begin = 0; turn 2 = 0; stands 0 0 = NONE; taken 0 0 = 0; passed 0 0 = 0; earned = 0");
    }

    /** Where the first DRAW of each seed leads, with weights whose sums stand at bounds; some seeds become negative. */
    private static void drawBounds() {
        int[][] weights = {{9, 9, 9, 9, 9}, {0, 1, 0, 1, 0}, {1, 0, 0, 0, 1}, {0, 0, 0, 0, 9}, {3, 0, 2, 0, 0}};
        for (int[] w : weights) {
            PalletRounds x = Script.made("station 1 1 1; station 1 1 1; station 1 1 1; station 1 1 1; station 1 1 1",
                "home 0 2; parts 0 1");
            int all = 0;
            for (int to = 0; to < 5; to++) {
                is("DRAW", x, "route 0 2 " + to + " " + w[to] + " = 0");
                if (to != 2) is("DRAW", x, "route 0 " + to + " 2 1 = 0");
                all += w[to];
            }
            int seed = 1;
            for (int i = 0; i < 110; i++) {
                int given = i * 1640531527;
                long next = (given * 1103515245L + 12345L) & 0xffffffffL;
                long draw = (next / 65536) % all;
                int to = 0;
                for (long left = draw; left >= w[to]; to++) left -= w[to];
                is("a DRAW below " + all + ", seed " + given, x, "seed " + given + " = " + seed + "; begin = 1; turn 1 = 1",
                    "where 0 0 = " + to);
                seed = (int) next;
            }
        }
    }

    private static void earnedBounds() {
        PalletRounds x = Script.made("station 3 1 1; route 0 0 0 1; route 1 0 0 1; home 0 0; home 1 0; parts 0 1; parts 1 1",
            "pay 0 MOST; pay 1 LEAST");
        is("30: nobody PASSED", x, "earned = 0; begin; earned = 0; turn 1 = 2; passed 0 0 = 1");
        is("30: the sum", x, "earned = -1; pay 1 0; earned = MOST; pay 1 1; earned = NO; pay 1 -1",
            "earned = 9223372036854775806; pay 0 LEAST; earned = NO; pay 1 0; earned = LEAST");
        is("30: one product", x, "turn 1; pay 0 4611686018427387903; earned = 9223372036854775806; pay 0 4611686018427387904",
            "earned = NO; pay 1 -4611686018427387904; earned = NO",
            "pay 0 -4611686018427387904; pay 1 0; earned = LEAST; pay 0 -4611686018427387905; earned = NO",
            "pay 1 4611686018427387903; earned = NO; pay 0 0; earned = 9223372036854775806");
        is("30: what has ended", x, "pay 0 LEAST; earned = NO; home 0 0; earned = 0; begin; earned = 0");
        isNew("30: no HOME", "pay 0 MOST; pay 1 MOST; earned = 0; begin = 0; turn 60 = 0; earned = 0");
        is("30: at HOME alone", Script.made(PAIR, "parts 0 1; home 0 1; pay 0 10; begin; turn 1"), "earned = 10; turn 1",
            "earned = 10; turn 1; earned = 20; passed 0 0 = 1; passed 0 1 = 2");
    }

    private static final String BEGUN = "parts 0 2; sheet 0 1 4; put 0 1 1; sheet 1 0 40; image; begin; turn 3";

    private static void feed(PalletRounds x, String text) {
        for (int i = 0; i < text.length(); i++) x.feed(1, text.charAt(i), 0, 0, 0, 0);
    }

    /** 'What is BEGUN ends ..', each by itself, with what stays and with what doesn't. */
    private static void whatEnds() {
        String[] ends = {"station 0 1 1", "time 0 0 1", "time 1 1 9", "time 0 1 1", "becomes 0 1", "becomes 1 3",
            "route 0 0 1 1", "route 1 1 1 0", "route 1 0 0 4",
            "home 0 0", "home 1 1", "parts 0 2", "parts 1 0", "parts 1 6", "lay 0 0 0 1 0", "lay 0 1 0 1 0", "lay 1 1 1 0 0",
            "back"};
        String[] clauses = {"s011", "r0011", "r1119", "h00", "h11", "n02", "n10", "n16", "n09;n02", "s999;h09;n02;r2222"};
        for (int i = 0; i < ends.length + clauses.length; i++) {
            PalletRounds x = Script.made(PAIR, BEGUN);
            is("BEGUN", x, "count 3 = 2; count 4 = 3; passed 0 0 = 3");
            String by = i < ends.length ? ends[i] : clauses[i - ends.length];
            if (i < ends.length) {
                is("", x, by);
            } else {
                feed(x, by);
                is("not yet by " + by, x, "count 3 = 2");
                DUE.is("done: " + by, x.text() > 0 ? 1 : 0, 1);
            }
            is("ended by " + by, x, "count 3 = 0; count 4 = 0; passed 0 0 = 0; passed 0 1 = 0; stands 0 0 = NONE",
                "stands 1 0 = NONE; where 0 0 = -12; where 1 1 = -12",
                "turn 1 = STATE; earned = 0; begin; count 4 = 0; passed 0 0 = 0; turn 1; count 4 = 1");
        }
    }

    private static void whatEndsNot() {
        String[] calls = {"pay 0 5", "seed 5", "image", "feed 3 110 48 49 0 0", "told 0 0", "taken 0 0", "of 0 2",
            "visits 0 0 0", "sound", "constant 1 0 2 0", "odds 0 0",
            "likely 0 0", "film 2", "rate 0 2 0", "mean 0 0 1 0", "busy 0 0", "narrow", "swift 0", "where 0 0", "stands 0 0",
            "passed 0 0", "earned", "count 0", "sheet 0 0 4",
            "sheet 0 -1 0", "put 0 0 9", "item 0 0", "copy 0 0 0 1 1", "text", "lay 0 0 0 0 0", "lay 2 0 0 0 0",
            "lay 0 0 0 1 3", "time 2 0 1", "time 0 0 0", "becomes 0 4",
            "route 0 0 0 10", "home 0 2", "parts 0 7", "parts 2 1", "station 4 1 1"};
        String[] tapes = {"n07;h09;s909;r2000", "n02;", "n02;h00x", "n0", "x"};
        for (int i = 0; i < calls.length + tapes.length; i++) {
            PalletRounds x = Script.made(PAIR, BEGUN);
            String by = i < calls.length ? calls[i] : tapes[i - calls.length];
            if (i < calls.length) {
                is("", x, by);
            } else {
                feed(x, by);
                DUE.is("none is done: " + by, x.text() <= 0 ? 1 : 0, 1);
            }
            is("not ended by " + by, x, "count 3 = 2; count 4 = 3; passed 0 0 = 3; passed 0 1 = 2; turn 1 = 2; count 4 = 4",
                "passed 0 0 = 4");
        }
        PalletRounds full = Script.made(PAIR, "station 1 1 1; station 1 1 1; station 1 1 1; parts 0 6; parts 1 2; begin",
            "turn 3; station 1 1 1; parts 1 3");
        is("not ended by what is FULL", full, "count 3 = 8; count 4 = 3; turn 1 = 2");
        PalletRounds bare = Script.made(PAIR, "parts 0 2; begin; turn 3; back");
        is("not ended by an IMAGE that isn't there", bare, "count 3 = 2; count 4 = 3; turn 1 = 2");
    }

    private static void images() {
        isNew("33: there is none", "back = STATE; station 1 1 1; back = STATE; count 0 = 1; image = 1; back = 1");
        isNew("32: of nothing", "image = 0; station 1 1 1; home 0 0; route 0 0 0 9; parts 0 6; pay 0 5; back = 0",
            "count 0 = 0; count 1 = 0; count 2 = 0; of 0 0 = NONE; pay 0 0 = 0",
            "station 1 1 1; route 0 0 0 0 = 0; told 0 1 = 1; back = 0; back = 0");
        PalletRounds x = Script.made("station 0 1 2; station 1 3 4; station 2 5 6; station 3 7 8; station 0 9 1; home 0 4",
            "home 1 0; parts 0 2; parts 1 6; pay 0 MOST; pay 1 LEAST");
        for (int i = 0; i < 50; i++) is("", x, "route " + i / 25 + " " + i / 5 % 5 + " " + i % 5 + " " + i % 9);
        is("33: all full", x, "image = 5; becomes 4 3; time 4 0 1; time 3 1 1; home 0 0; home 1 1; parts 1 0; parts 0 6",
            "pay 0 0; pay 1 0");
        for (int i = 0; i < 50; i++) is("", x, "route " + i / 25 + " " + i / 5 % 5 + " " + i % 5 + " 9");
        is("33: all that it keeps", x, "back = 5; told 4 0 = 0; told 4 1 = 9; told 3 2 = 8; told 0 2 = 2; of 0 0 = 4",
            "of 1 0 = 0; of 0 1 = 2; of 1 1 = 6; pay 0 1 = MOST; pay 1 1 = LEAST");
        for (int i = 0; i < 50; i++) is("33: a weight", x, "route " + i / 25 + " " + i / 5 % 5 + " " + i % 5 + " 0 = " + i % 9);
        is("33: and no more than it keeps", Script.made(PAIR, "image; seed 77; feed 2 104 48 0 0 0; sheet 0 2 3",
            "put 0 0 5"), "back = 2; seed 0 = 77; count 5 = 2; item 0 0 = 5; put 0 2 65537 = 1; item 0 2 = 1");
    }

    private static void sheetSizes() {
        for (int sort = 0; sort < 3; sort++) {
            String s = " " + sort + " ";
            isNew("35: n to 40", "put 0 0 1 = -11; sheet 0" + s + "-1 = -14; put 0 0 1 = -11; sheet 0" + s + "41 = BAD",
                "put 0 0 1 = -11; sheet 0" + s + "0 = 1; put 0 0 1 = -12; item 0 0 = NO",
                "sheet 0" + s + "1 = 1; put 0 0 7 = 1; put 0 1 7 = -12; item 0 0 = 7; item 0 1 = NO; item 0 -1 = NO",
                "put 0 -1 7 = -12; sheet 0" + s + "40 = 1; item 0 0 = 0",
                "put 0 39 7 = 1; item 0 39 = 7; put 0 40 7 = -12; item 0 40 = NO; sheet 0" + s + "MAX = BAD",
                "sheet 0" + s + "MIN = -14; item 0 39 = 7; item 0 38 = 0",
                "copy 0 0 0 0 40 = 40; copy 0 0 0 0 41 = -12; copy 0 40 0 40 0 = 0; copy 0 41 0 0 0 = -12",
                "copy 0 0 0 41 0 = -12; copy 0 39 0 0 1 = 1; item 0 0 = 7; copy 0 39 0 0 2 = -12",
                "sheet 0 -1 41 = 1; item 0 39 = NO; put 0 39 1 = -11; copy 0 0 0 0 0 = -11; sheet 0 -1 MIN = 1",
                "sheet 0 -2 1 = BAD; sheet 0 3 1 = BAD; sheet 0" + s + "40 = 1; item 0 39 = 0");
        }
        isNew("36: the lowest bits", "sheet 0 0 1; sheet 1 1 1; sheet 2 2 1; put 0 0 LEAST = 1; item 0 0 = LEAST",
            "put 0 0 MOST = 1; item 0 0 = MOST; put 1 0 2147483647 = 1; item 1 0 = MAX",
            "put 1 0 2147483648 = 1; item 1 0 = MIN; put 1 0 4294967296 = 1; item 1 0 = 0; put 1 0 LEAST = 1; item 1 0 = 0",
            "put 1 0 MOST = 1; item 1 0 = -1; put 1 0 -2147483649 = 1; item 1 0 = MAX",
            "put 2 0 32767 = 1; item 2 0 = 32767; put 2 0 32768 = 1; item 2 0 = -32768; put 2 0 65535 = 1; item 2 0 = -1",
            "put 2 0 65536 = 1; item 2 0 = 0; put 2 0 -32769 = 1; item 2 0 = 32767");
        isNew("35: SHEETS 0 .. 3", "sheet 3 0 1 = 1; sheet 4 0 1 = BAD; sheet -1 0 1 = BAD; put 3 0 1 = 1; put 4 0 1 = BAD",
            "put -1 0 1 = BAD; item 3 0 = 1; item 4 0 = NO; item -1 0 = NO",
            "film 3 = 0; film 4 = BAD; film -1 = BAD; put 3 0 1 = -12; copy 3 0 4 0 0 = BAD; copy -1 0 3 0 0 = BAD",
            "copy 3 0 3 0 0 = 0; put 0 0 1 = -11; put 1 0 1 = -11; put 2 0 1 = -11");
    }

    private static void layBounds() {
        PalletRounds x = Script.made("station 1 1 1; station 1 1 1; sheet 0 0 3; put 0 0 10; put 0 1 -19; put 0 2 LEAST",
            "sheet 1 1 2; put 1 0 MIN; put 1 1 MAX; sheet 2 2 2; put 2 0 -9; put 2 1 -10");
        is("39: to the last item", x, "lay 0 0 0 0 -1 = -12; lay 0 0 0 0 2 = -12; count 2 = 0; lay 0 0 0 0 1 = 2",
            "route 0 0 0 0 = 9; route 0 0 1 0 = 8; lay 0 1 1 0 0 = 2; route 1 1 0 5 = 0; route 1 1 1 5 = 9");
        is("39: modulo 10", x, "lay 1 0 1 1 0 = 2; route 0 1 0 5 = 8; route 0 1 1 5 = 7; lay 2 0 1 2 0 = 2",
            "route 0 1 0 5 = 9; route 0 1 1 5 = 0; lay 2 0 1 2 1 = -12; lay 2 0 1 1 0 = -13");
        is("39: one item too few", x, "sheet 3 1 1; lay 3 0 0 1 0 = -12; sheet 3 1 0; lay 3 0 0 1 0 = -12; sheet 3 -1 0",
            "lay 3 0 0 1 0 = -11; lay 3 0 2 1 0 = BAD; lay 3 0 0 -1 0 = BAD");
        is("39: five STATIONS", Script.made("station 1 1 1; station 1 1 1; station 1 1 1; station 1 1 1; station 1 1 1",
            "sheet 0 2 40; put 0 35 1; put 0 39 1"),
            "lay 0 0 4 2 35 = 5; count 2 = 2; route 0 4 0 0 = 1; route 0 4 4 0 = 1; lay 0 0 4 2 36 = -12; lay 0 0 4 2 34 = 5",
            "route 0 4 1 0 = 1; count 2 = 0");
    }
}
