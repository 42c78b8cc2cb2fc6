/** Promises 25 to 34: in truth. */
public final class TruthTest {
    private static final Due DUE = new Due();
    private static final int NONE = PalletRounds.NONE, BAD = PalletRounds.BAD, STATE = PalletRounds.STATE;
    private static final long NO = PalletRounds.NO;

    public static void main(String[] args) {
        promise25Begin();
        promise26Turn();
        promise26Kinds();
        promise26Draws();
        promise27Where();
        promise28Stands();
        promise29Passed();
        promise30Earned();
        promise31Seed();
        promise32And33Image();
        promise33Refused();
        promise34Count();
        DUE.end();
    }

    /** CLASS 0 goes 0, 1, 0; CLASS 1 the same, but TIMES differ. */
    private static PalletRounds pair(int kind, int n0, int n1) {
        PalletRounds x = StatesTest.pairOfStations(kind, 3, 2, 3, 9, 9);
        x.parts(0, n0);
        x.parts(1, n1);
        return x;
    }

    private static void promise25Begin() {
        PalletRounds x = new PalletRounds();
        DUE.is("25: nobody", x.begin(), 0);
        DUE.is("25: yet it is BEGUN", x.turn(5), 0);
        DUE.is("25: and counts TURNS", x.count(4), 5);
        x.parts(0, 1);
        DUE.is("25: not SOUND", x.begin(), STATE);
        x = pair(1, 2, 1);
        x.home(1, 1);
        DUE.is("25: three", x.begin(), 3);
        DUE.is("25: 0 at HOME", x.where(0, 0), 0);
        DUE.is("25: 1 at HOME", x.where(1, 0), 0);
        DUE.is("25: 2 at the other HOME", x.where(2, 0), 1);
        DUE.is("25: REST of 1", x.where(1, 1), 2);
        DUE.is("25: REST of 2", x.where(2, 1), 9);
        x.turn(7);
        DUE.is("25: it goes", x.passed(0, 0), 2);
        DUE.is("25: again", x.begin(), 3);
        DUE.is("25: PASSED again", x.passed(0, 0), 0);
        DUE.is("25: TURNS again", x.count(4), 0);
        DUE.is("25: at HOME again", x.stands(0, 1), 1);
        x.parts(0, 1);
        x.home(0, 1);
        x.begin();
        DUE.is("25: in this order", x.stands(1, 0) * 10 + x.stands(1, 1), 1);
    }

    private static void promise26Turn() {
        PalletRounds x = pair(0, 1, 1);
        DUE.is("26: nothing is BEGUN", x.turn(1), STATE);
        DUE.is("26: BAD before STATE", x.turn(0), BAD);
        x.begin();
        DUE.is("26: turn(0)", x.turn(0), BAD);
        DUE.is("26: turn(-1)", x.turn(-1), BAD);
        DUE.is("26: turn(61)", x.turn(61), BAD);
        DUE.is("26: TURNS", x.count(4), 0);
        // a LINE: 2 TURNS of CLASS 0 for each, then 9 at a WALK: 0 is back in 11, 1 in 13
        DUE.is("26: turn(1)", x.turn(1), 0);
        DUE.is("26: turn(1)", x.turn(1), 1);
        DUE.is("26: turn(8)", x.turn(8), 1);
        DUE.is("26: turn(1)", x.turn(1), 1);
        DUE.is("26: 0 is back", x.where(0, 0) * 10 + x.where(0, 1), 2);
        DUE.is("26: turn(60)", x.turn(60), 23);
        DUE.is("26: TURNS", x.count(4), 71);
    }

    /** Three stand at STATION 0, of REST 2, 2 (CLASS 0) and 3 (CLASS 1; in a LINE 2); who left it is at a WALK. */
    private static void promise26Kinds() {
        int[][] rests = {{1, 2, 2}, {2, 2, 2}, {1, 2, 3}, {1, 1, 2}};
        for (int kind = 0; kind < 4; kind++) {
            PalletRounds x = pair(kind, 2, 1);
            x.begin();
            DUE.is("26: first of kind " + kind, x.turn(1), 0);
            for (int one = 0; one < 3; one++) DUE.is("26: REST in kind " + kind, x.where(one, 1), rests[kind][one]);
        }
        PalletRounds line = pair(0, 2, 1);
        line.begin();
        line.turn(6);
        DUE.is("26: LINE", line.stands(1, 0) * 100 + line.stands(1, 1) * 10 + line.stands(1, 2), 12);
        PalletRounds stack = pair(1, 2, 1);
        stack.begin();
        stack.turn(7);
        DUE.is("26: STACK", stack.stands(1, 0) * 100 + stack.stands(1, 1) * 10 + stack.stands(1, 2), 210);
        PalletRounds share = pair(2, 2, 1);
        share.begin();
        share.turn(1);
        DUE.is("26: SHARE", share.stands(0, 0) * 100 + share.stands(0, 1) * 10 + share.stands(0, 2), 120);
        share.turn(2);
        DUE.is("26: SHARE, all served once", share.stands(0, 0) * 100 + share.stands(0, 1) * 10 + share.stands(0, 2), 12);
        DUE.is("26: SHARE, 0 leaves", share.turn(1), 1);
        DUE.is("26: SHARE, 1 is the first", share.stands(0, 0) * 10 + share.stands(0, 1), 12);
        DUE.is("26: SHARE, 1 and 2", share.turn(2), 1);
        DUE.is("26: SHARE, 2 at last", share.turn(1), 1);
        PalletRounds walk = pair(3, 2, 1);
        walk.begin();
        DUE.is("26: WALK, two at once", walk.turn(2), 2);
        DUE.is("26: WALK, from the first on", walk.stands(1, 0) * 10 + walk.stands(1, 1), 1);
        DUE.is("26: WALK, who stays", walk.stands(0, 0), 2);
        newcomersWait();
    }

    /** Who leaves STATION 0 comes to STATION 1 only behind all service, and stands behind who came before. */
    private static void newcomersWait() {
        PalletRounds x = StatesTest.pairOfStations(0, 0, 1, 1, 1, 1);
        x.parts(0, 3);
        x.begin();
        DUE.is("26: one leaves", x.turn(1), 1);
        DUE.is("26: it isn't served yet", x.where(0, 0) * 10 + x.where(0, 1), 11);
        DUE.is("26: two leave", x.turn(1), 2);
        DUE.is("26: 0 stands last again", x.stands(0, 0) * 10 + x.stands(0, 1), 20);
        DUE.is("26: 1 is at STATION 1", x.stands(1, 0), 1);
    }

    /** SEED 1 becomes 1103527590, its upper half is 16838. */
    private static void promise26Draws() {
        PalletRounds x = new PalletRounds();
        for (int s = 0; s < 3; s++) x.station(3, 1, 1);
        int[] w = {2, 0, 3};
        for (int to = 0; to < 3; to++) x.route(0, 0, to, w[to]);
        x.route(0, 2, 0, 1);
        x.home(0, 0);
        x.parts(0, 1);
        int seed = 1;
        int at = 0;
        int steps = 0;
        x.begin();
        for (int i = 0; i < 200; i++) {
            x.turn(1);
            seed = seed * 1103515245 + 12345;
            int draw = (seed >>> 16) % (at == 0 ? 5 : 1);
            at = at == 0 && draw >= 2 ? 2 : 0;
            if (at == 2) steps++;
            DUE.is("26: TURN " + i, x.where(0, 0), at);
            if (i == 0) DUE.is("31: SEED", x.seed(seed), 1103527590);
        }
        DUE.is("26: it went both ways", steps > 40 && steps < 100 ? 1 : 0, 1);
    }

    private static void promise27Where() {
        PalletRounds x = pair(1, 2, 2);
        DUE.is("27: nothing is BEGUN", x.where(0, 0), -12);
        DUE.is("27: BAD before -12", x.where(0, 3), BAD);
        x.begin();
        DUE.is("27: where(4, 0)", x.where(4, 0), -12);
        DUE.is("27: where(-1, 0)", x.where(-1, 0), -12);
        DUE.is("27: where(0, -1)", x.where(0, -1), BAD);
        DUE.is("27: where(0, 3)", x.where(0, 3), BAD);
        for (int one = 0; one < 4; one++) {
            DUE.is("27: place", x.where(one, 0), 0);
            DUE.is("27: REST", x.where(one, 1), one < 2 ? 2 : 3);
            DUE.is("27: ahead", x.where(one, 2), one);
        }
        x.turn(4);
        DUE.is("27: 3 has left", x.where(3, 0), 1);
        DUE.is("27: its REST", x.where(3, 1), 8);
        DUE.is("27: nobody ahead", x.where(3, 2), 0);
        DUE.is("27: 2 has worked", x.where(2, 1), 2);
        DUE.is("27: two ahead", x.where(2, 2), 2);
    }

    private static void promise28Stands() {
        PalletRounds x = pair(0, 2, 2);
        DUE.is("28: nothing is BEGUN", x.stands(0, 0), NONE);
        x.begin();
        for (int i = 0; i < 4; i++) DUE.is("28: in order", x.stands(0, i), i);
        DUE.is("28: stands(0, 4)", x.stands(0, 4), NONE);
        DUE.is("28: stands(0, -1)", x.stands(0, -1), NONE);
        DUE.is("28: stands(0, MAX)", x.stands(0, Integer.MAX_VALUE), NONE);
        DUE.is("28: stands(1, 0)", x.stands(1, 0), NONE);
        DUE.is("28: stands(2, 0)", x.stands(2, 0), BAD);
        DUE.is("28: stands(-1, 0)", x.stands(-1, 0), BAD);
        x.turn(2);
        DUE.is("28: who stood second", x.stands(0, 0), 1);
        DUE.is("28: who left", x.stands(1, 0), 0);
        DUE.is("28: three remain", x.stands(0, 3), NONE);
    }

    private static void promise29Passed() {
        PalletRounds x = pair(3, 2, 3);
        DUE.is("29: nothing is BEGUN", x.passed(0, 0), 0);
        x.begin();
        DUE.is("29: passed(2, 0)", x.passed(2, 0), BAD);
        DUE.is("29: passed(-1, 0)", x.passed(-1, 0), BAD);
        DUE.is("29: passed(0, 2)", x.passed(0, 2), BAD);
        DUE.is("29: passed(0, -1)", x.passed(0, -1), BAD);
        x.turn(2);
        DUE.is("29: CLASS 0", x.passed(0, 0), 2);
        DUE.is("29: CLASS 1 not yet", x.passed(1, 0), 0);
        x.turn(1);
        DUE.is("29: CLASS 1", x.passed(1, 0), 3);
        x.turn(22);
        // CLASS 0 takes 11 round, CLASS 1 takes 12
        DUE.is("29: CLASS 0 at 0", x.passed(0, 0), 6);
        DUE.is("29: CLASS 0 at 1", x.passed(0, 1), 4);
        DUE.is("29: CLASS 1 at 0", x.passed(1, 0), 6);
        DUE.is("29: CLASS 1 at 1", x.passed(1, 1), 6);
    }

    private static void promise30Earned() {
        PalletRounds x = pair(3, 2, 3);
        x.pay(0, 10);
        x.pay(1, -3);
        DUE.is("30: nothing is BEGUN", x.earned(), 0);
        x.begin();
        DUE.is("30: nobody PASSED", x.earned(), 0);
        x.turn(3);
        DUE.is("30: 2 times 10 less 3 times 3", x.earned(), 11);
        x.pay(0, Long.MAX_VALUE / 2);
        DUE.is("30: just a long", x.earned(), Long.MAX_VALUE / 2 * 2 - 9);
        x.pay(0, Long.MAX_VALUE / 2 + 1);
        DUE.is("30: a product above, though the sum would be none", x.earned(), NO);
        x.pay(0, Long.MIN_VALUE / 2);
        DUE.is("30: the sum is below", x.earned(), NO);
        x.pay(1, 0);
        DUE.is("30: just a long below", x.earned(), Long.MIN_VALUE);
        x.pay(0, Long.MIN_VALUE / 2 - 1);
        DUE.is("30: a product below", x.earned(), NO);
        x.pay(0, 0);
        x.pay(1, Long.MIN_VALUE / 3);
        DUE.is("30: CLASS 1", x.earned(), Long.MIN_VALUE / 3 * 3);
        x.pay(1, Long.MIN_VALUE / 3 - 1);
        DUE.is("30: a product of CLASS 1 below", x.earned(), NO);
        x.pay(0, Long.MAX_VALUE / 2);
        x.pay(1, 1);
        DUE.is("30: the sum is above", x.earned(), NO);
        x.pay(1, 0);
        DUE.is("30: the sum is not", x.earned(), Long.MAX_VALUE - 1);
        PalletRounds y = pair(3, 1, 0);
        y.home(0, 1);
        y.pay(0, 5);
        y.begin();
        y.turn(9);
        DUE.is("30: at its HOME", y.earned(), 5);
        y.turn(2);
        DUE.is("30: not elsewhere", y.earned(), 5);
        y.pay(0, Long.MIN_VALUE);
        DUE.is("30: once", y.earned(), Long.MIN_VALUE);
    }

    private static void promise31Seed() {
        PalletRounds x = pair(3, 1, 0);
        DUE.is("31: 1 at first", x.seed(Integer.MIN_VALUE), 1);
        DUE.is("31: anything goes", x.seed(Integer.MAX_VALUE), Integer.MIN_VALUE);
        DUE.is("31: nothing is refused", x.seed(-1), Integer.MAX_VALUE);
        x.seed(1);
        x.begin();
        x.turn(1);
        DUE.is("31: nobody left", x.seed(1), 1);
        x.turn(1);
        DUE.is("31: one DRAW, also where one ROUTE leads", x.seed(7), 1103527590);
        x.begin();
        x.image();
        x.back();
        DUE.is("31: it stays", x.seed(7), 7);
    }

    private static void promise32And33Image() {
        PalletRounds x = new PalletRounds();
        DUE.is("33: there is none", x.back(), STATE);
        DUE.is("32: of nothing", x.image(), 0);
        x.station(1, 2, 3);
        DUE.is("33: to nothing", x.back(), 0);
        DUE.is("33: nothing", x.count(0), 0);
        x = pair(2, 2, 1);
        x.pay(0, 77);
        x.feed(2, 'h', '0', 0, 0, 0);
        x.sheet(1, 1, 3);
        DUE.is("32: two STATIONS", x.image(), 2);
        x.station(0, 1, 1);
        x.time(0, 0, 9);
        x.time(0, 1, 8);
        x.becomes(0, 1);
        x.route(0, 0, 2, 4);
        x.route(1, 0, 1, 9);
        x.home(0, 2);
        x.parts(0, 5);
        x.pay(0, 1);
        x.feed(1, '1', 0, 0, 0, 0);
        x.sheet(1, 0, 5);
        for (int i = 0; i < 2; i++) {
            DUE.is("33: back, " + i, x.back(), 2);
            DUE.is("33: STATIONS", x.count(0), 2);
            DUE.is("33: KIND", x.told(0, 0), 2);
            DUE.is("33: TIMES", x.told(0, 1) * 10 + x.told(0, 2), 23);
            DUE.is("33: ROUTES", x.count(2), 4);
            DUE.is("33: weight", x.route(1, 0, 1, 5), 1);
            DUE.is("33: HOME", x.of(0, 0), 0);
            DUE.is("33: PARTS", x.count(1), 3);
            DUE.is("33: PAY", x.pay(0, 5), 77);
            DUE.is("33: THE TAPE stays", x.count(5), 3);
            DUE.is("33: SHEETS stay", x.item(1, 4), 0);
            DUE.is("33: REST of all", x.station(3, 1, 1), 2);
            DUE.is("33: no ROUTES to who comes anew", x.of(0, 3), 3);
        }
        x.back();
        x.becomes(1, 0);
        DUE.is("32: another", x.image(), 2);
        x.becomes(1, 1);
        x.back();
        DUE.is("33: the newer one", x.told(1, 0), 0);
        x.begin();
        DUE.is("32: it ends nothing", x.image() + x.turn(4), 3);
    }

    private static void promise33Refused() {
        PalletRounds x = pair(3, 1, 0);
        x.begin();
        DUE.is("33: none", x.back(), STATE);
        DUE.is("33: nothing ends by it", x.count(3), 1);
        x.image();
        x.back();
        DUE.is("33: it ends by this", x.count(3), 0);
        DUE.is("33: VISITS are there", x.visits(0, 1, 1), 9);
        DUE.is("33: it begins", x.begin(), 1);
    }

    private static void promise34Count() {
        PalletRounds x = pair(3, 2, 3);
        x.route(0, 0, 0, 3);
        x.route(0, 0, 0, 0);
        x.route(1, 1, 1, 9);
        x.feed(4, 1, 2, 3, 4, 5);
        int[] want = {2, 5, 5, 0, 0, 4};
        for (int what = 0; what < 6; what++) DUE.is("34: count(" + what + ")", x.count(what), want[what]);
        DUE.is("34: count(6)", x.count(6), BAD);
        DUE.is("34: count(-1)", x.count(-1), BAD);
        x.route(1, 1, 1, 0);
        x.begin();
        x.turn(3);
        x.turn(4);
        DUE.is("34: PARTS in truth", x.count(3), 5);
        DUE.is("34: TURNS", x.count(4), 7);
    }
}
