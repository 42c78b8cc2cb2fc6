/** Promises 35 to 39: the host. */
public final class HostTest {
    private static final Due DUE = new Due();
    private static final int NONE = PalletRounds.NONE, BAD = PalletRounds.BAD;
    private static final long NO = PalletRounds.NO;

    public static void main(String[] args) {
        promise35Sheet();
        promise36Put();
        promise37Item();
        promise38Copy();
        promise39Lay();
        promise39Refusals();
        DUE.end();
    }

    private static void promise35Sheet() {
        PalletRounds x = new PalletRounds();
        DUE.is("35: sheet(4, 0, 1)", x.sheet(4, 0, 1), BAD);
        DUE.is("35: sheet(-1, 0, 1)", x.sheet(-1, 0, 1), BAD);
        DUE.is("35: sheet(0, 3, 1)", x.sheet(0, 3, 1), BAD);
        DUE.is("35: sheet(0, -2, 1)", x.sheet(0, -2, 1), BAD);
        DUE.is("35: sheet(0, 0, 41)", x.sheet(0, 0, 41), BAD);
        DUE.is("35: sheet(0, 0, -1)", x.sheet(0, 0, -1), -14);
        DUE.is("35: sheet(0, 0, MIN)", x.sheet(0, 0, Integer.MIN_VALUE), -14);
        DUE.is("35: BAD before -14", x.sheet(0, 3, -1), BAD);
        DUE.is("35: still missing", x.put(0, 0, 1), -11);
        DUE.is("35: 40 items", x.sheet(0, 2, 40), 1);
        DUE.is("35: the last one", x.put(0, 39, 7), 1);
        DUE.is("35: anew", x.sheet(0, 2, 40), 1);
        DUE.is("35: all 0", x.item(0, 39), 0);
        x.put(0, 3, 9);
        DUE.is("35: refused", x.sheet(0, 0, 41), BAD);
        DUE.is("35: refused, too", x.sheet(0, 0, -3), -14);
        DUE.is("35: nothing changed", x.item(0, 3), 9);
        DUE.is("35: none", x.sheet(0, 0, 0), 1);
        DUE.is("35: no item", x.put(0, 0, 1), -12);
        DUE.is("35: more again", x.sheet(0, 0, 5), 1);
        DUE.is("35: all 0 again", x.item(0, 3), 0);
        DUE.is("35: missing", x.sheet(0, NONE, -5), 1);
        DUE.is("35: n does not matter", x.sheet(1, NONE, 99), 1);
        DUE.is("35: it is", x.put(0, 0, 1), -11);
        DUE.is("35: BAD all the same", x.sheet(4, NONE, 1), BAD);
    }

    private static void promise36Put() {
        PalletRounds x = new PalletRounds();
        DUE.is("36: put(4, 0, 1)", x.put(4, 0, 1), BAD);
        DUE.is("36: put(-1, 0, 1)", x.put(-1, 0, 1), BAD);
        DUE.is("36: missing, and outside", x.put(0, -1, 1), -11);
        for (int sort = 0; sort < 3; sort++) x.sheet(sort, sort, 2);
        DUE.is("36: put(0, 2, 1)", x.put(0, 2, 1), -12);
        DUE.is("36: put(0, -1, 1)", x.put(0, -1, 1), -12);
        long[] v = {0x123456789abcdef0L, -1, 0x18000, 0x80000000L, Long.MIN_VALUE, 32768, -32769};
        for (long each : v) {
            for (int sheet = 0; sheet < 3; sheet++) DUE.is("36: put", x.put(sheet, 1, each), 1);
            DUE.is("36: a long", x.item(0, 1), each);
            DUE.is("36: an int", x.item(1, 1), (int) each);
            DUE.is("36: a short", x.item(2, 1), (short) each);
            DUE.is("36: another item", x.item(0, 0) + x.item(1, 0) + x.item(2, 0), 0);
        }
    }

    private static void promise37Item() {
        PalletRounds x = new PalletRounds();
        DUE.is("37: missing", x.item(0, 0), NO);
        DUE.is("37: item(4, 0)", x.item(4, 0), NO);
        DUE.is("37: item(-1, 0)", x.item(-1, 0), NO);
        x.sheet(3, 0, 2);
        x.put(3, 1, -8);
        DUE.is("37: item(3, 0)", x.item(3, 0), 0);
        DUE.is("37: item(3, 1)", x.item(3, 1), -8);
        DUE.is("37: item(3, 2)", x.item(3, 2), NO);
        DUE.is("37: item(3, -1)", x.item(3, -1), NO);
        DUE.is("37: item(3, MIN)", x.item(3, Integer.MIN_VALUE), NO);
    }

    private static PalletRounds rows() {
        PalletRounds x = new PalletRounds();
        x.sheet(0, 1, 5);
        x.sheet(1, 1, 3);
        x.sheet(2, 2, 5);
        for (int i = 0; i < 5; i++) x.put(0, i, 10 + i);
        return x;
    }

    private static void itemsAre(String about, PalletRounds x, int sheet, long... want) {
        for (int i = 0; i < want.length; i++) DUE.is(about + ", item " + i, x.item(sheet, i), want[i]);
    }

    private static void promise38Copy() {
        PalletRounds x = rows();
        DUE.is("38: two", x.copy(0, 3, 1, 0, 2), 2);
        itemsAre("38: two", x, 1, 13, 14, 0);
        DUE.is("38: none", x.copy(0, 5, 1, 3, 0), 0);
        DUE.is("38: onward in itself", x.copy(0, 0, 0, 1, 4), 4);
        itemsAre("38: as they were", x, 0, 10, 10, 11, 12, 13);
        DUE.is("38: back in itself", x.copy(0, 1, 0, 0, 4), 4);
        itemsAre("38: as they were", x, 0, 10, 11, 12, 13, 13);
        DUE.is("38: no such SHEET", x.copy(4, 0, 1, 0, 1), BAD);
        DUE.is("38: no such SHEET", x.copy(-1, 0, 1, 0, 1), BAD);
        DUE.is("38: no such other", x.copy(0, 0, 4, 0, 1), BAD);
        DUE.is("38: no such other", x.copy(0, 0, -1, 0, 1), BAD);
        DUE.is("38: the first is missing", x.copy(3, 0, 2, 0, -1), -11);
        DUE.is("38: the other is missing", x.copy(0, 9, 3, 0, 1), -11);
        DUE.is("38: BAD before -11", x.copy(3, 0, 4, 0, 1), BAD);
        DUE.is("38: unlike sorts, and outside", x.copy(0, 9, 2, 0, -1), -13);
        int[][] outside = {{-1, 0, 1}, {0, -1, 1}, {0, 0, -1}, {4, 0, 2}, {0, 2, 2}, {6, 0, 0}, {0, 4, 0}, {0, 0, 4},
            {Integer.MAX_VALUE, 0, 1}, {1, 1, Integer.MAX_VALUE}, {0, 0, Integer.MIN_VALUE}};
        for (int[] o : outside) DUE.is("38: outside", x.copy(0, o[0], 1, o[1], o[2]), -12);
        itemsAre("38: nothing changed", x, 1, 13, 14, 0);
        x.sheet(3, 0, 1);
        x.put(3, 0, Long.MIN_VALUE);
        x.sheet(2, 0, 2);
        x.copy(3, 0, 2, 1, 1);
        itemsAre("38: longs", x, 2, 0, Long.MIN_VALUE);
    }

    private static PalletRounds threeStations() {
        PalletRounds x = new PalletRounds();
        for (int i = 0; i < 3; i++) x.station(1, 1, 1);
        x.sheet(0, 0, 5);
        long[] v = {7, -13, 2000000000009L, Long.MIN_VALUE, 10};
        for (int i = 0; i < 5; i++) x.put(0, i, v[i]);
        return x;
    }

    private static void promise39Lay() {
        PalletRounds x = threeStations();
        DUE.is("39: from 0", x.lay(0, 1, 2, 0, 0), 3);
        int[] want = {7, 3, 9};
        for (int to = 0; to < 3; to++) DUE.is("39: weight to " + to, x.route(1, 2, to, 0), want[to]);
        DUE.is("39: no others", x.count(2), 0);
        DUE.is("39: from 2", x.lay(0, 0, 0, 0, 2), 3);
        int[] more = {9, 8, 0};
        for (int to = 0; to < 3; to++) DUE.is("39: weight to " + to, x.route(0, 0, to, 0), more[to]);
        x.sheet(1, 2, 3);
        x.put(1, 0, 65533);
        x.put(1, 2, -32768);
        DUE.is("39: shorts", x.lay(1, 0, 1, 2, 0), 3);
        DUE.is("39: of -3", x.route(0, 1, 0, 0), 3);
        DUE.is("39: of -32768", x.route(0, 1, 2, 0), 8);
        x.sheet(1, 1, 3);
        x.put(1, 1, Integer.MIN_VALUE);
        DUE.is("39: ints", x.lay(1, 0, 1, 1, 0), 3);
        DUE.is("39: of the least int", x.route(0, 1, 1, 0), 8);
        x.put(1, 0, 1);
        x.put(1, 1, 0);
        x.home(0, 1);
        x.route(0, 0, 1, 1);
        x.lay(1, 0, 1, 1, 0);
        DUE.is("39: VISITS follow", x.visits(0, 0, 0), 1);
    }

    private static void promise39Refusals() {
        PalletRounds x = threeStations();
        x.route(1, 1, 1, 4);
        int[][] bad = {{4, 0, 0, 0, 0}, {-1, 0, 0, 0, 0}, {0, 2, 0, 0, 0}, {0, -1, 0, 0, 0}, {0, 0, 3, 0, 0}, {0, 0, -1, 0, 0},
            {0, 0, 0, 3, 0}, {0, 0, 0, -1, 0}};
        for (int[] b : bad) DUE.is("39: a wrong number", x.lay(b[0], b[1], b[2], b[3], b[4]), BAD);
        DUE.is("39: of another sort, and outside", x.lay(0, 0, 0, 1, 9), -13);
        DUE.is("39: missing, and outside", x.lay(1, 0, 0, 1, 9), -11);
        DUE.is("39: from 3", x.lay(0, 1, 1, 0, 3), -12);
        DUE.is("39: from -1", x.lay(0, 1, 1, 0, -1), -12);
        DUE.is("39: from MAX", x.lay(0, 1, 1, 0, Integer.MAX_VALUE), -12);
        DUE.is("39: nothing changed", x.count(2) * 10 + x.route(1, 1, 1, 4), 14);
        PalletRounds empty = new PalletRounds();
        empty.sheet(0, 0, 5);
        DUE.is("39: no STATION", empty.lay(0, 0, 0, 0, 0), BAD);
    }
}
