import java.util.ArrayList;
import java.util.List;

/** All that can be seen of an object, as calls and their answers. What only a change shows is asked last: it is spent then. */
final class Look {
    private final PalletRounds x;
    private final List<String> seen = new ArrayList<>();

    private Look(PalletRounds x) {
        this.x = x;
    }

    static List<String> at(PalletRounds x) {
        Look look = new Look(x);
        look.truth();
        look.net();
        look.states();
        look.sheets();
        look.spend();
        return look.seen;
    }

    /** The first call that is answered otherwise; null: there is none. */
    static String difference(List<String> want, List<String> got) {
        for (int i = 0; i < Math.min(want.size(), got.size()); i++) {
            if (!want.get(i).equals(got.get(i))) return got.get(i) + ", was" + want.get(i).replaceAll(".*->", "");
        }
        return want.size() == got.size() ? null : "more or fewer answers";
    }

    private long see(String name, long... a) {
        long answer = Pair.ask(x, name, a);
        StringBuilder s = new StringBuilder(name).append('(');
        for (int i = 0; i < a.length; i++) s.append(i == 0 ? "" : ", ").append(a[i]);
        seen.add(s.append(") -> ").append(answer).toString());
        return answer;
    }

    private void truth() {
        for (int what = 0; what < 6; what++) see("count", what);
        long size = x.count(0);
        for (int s = 0; s < size; s++) {
            for (int i = 0; see("stands", s, i) >= 0 && i < 9; i++) { }
            for (int part = 0; part < 2; part++) see("passed", part, s);
        }
        for (int one = 0; one < 8; one++) {
            for (int what = 0; what < 3; what++) see("where", one, what);
        }
        see("earned");
    }

    private void net() {
        long size = x.count(0);
        for (int part = 0; part < 2; part++) {
            for (int what = 0; what < 4; what++) see("of", part, what);
            for (int s = 0; s < size; s++) see("visits", part, s, 1);
        }
        for (int s = 0; s < size; s++) {
            for (int what = 0; what < 3; what++) see("told", s, what);
            for (int group = 0; group < 3; group++) see("taken", s, group);
        }
    }

    private void states() {
        see("sound");
        see("narrow");
        long size = x.count(0);
        see("constant", x.of(0, 1), x.of(1, 1), size, 0);
        see("constant", x.of(0, 1), x.of(1, 1), size - 1, 0);
        for (int part = 0; part < 2; part++) {
            see("swift", part);
            for (int what = 0; what < 5; what++) see("rate", part, what, 1);
            for (int s = 0; s < size; s++) {
                see("likely", part, s);
                for (int what = 0; what < 3; what++) see("mean", part, s, what, 0);
            }
        }
        for (int s = 0; s < size; s++) see("busy", s, 0);
    }

    /** A number whose bits are unlike tells the sort, too. */
    private void sheets() {
        for (int sheet = 0; sheet < 4; sheet++) {
            see("odds", sheet, 0);
            for (int i = 0; i < 12; i++) see("item", sheet, i);
            see("item", sheet, 39);
            if (see("put", sheet, 0, 0x123456789abcdefL) == 1) see("item", sheet, 0);
        }
    }

    private void spend() {
        kept();
        see("seed", 0);
        see("text");
        see("count", 5);
        if (see("back") >= 0) {
            for (int part = 0; part < 2; part++) see("of", part, 0);
            for (int s = 0; s < x.count(0); s++) {
                for (int what = 0; what < 3; what++) see("told", s, what);
            }
            kept();
        }
    }

    private void kept() {
        long size = x.count(0);
        for (int part = 0; part < 2; part++) {
            see("pay", part, 0);
            for (int from = 0; from < size; from++) {
                for (int to = 0; to < size; to++) see("route", part, from, to, 0);
            }
            see("parts", part, 0);
        }
    }
}
