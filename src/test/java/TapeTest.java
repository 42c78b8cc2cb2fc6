/** Terms 1 and promises 9 and 10: THE TAPE, byte by byte and CLAUSE by CLAUSE. */
public final class TapeTest {
    private static final Due DUE = new Due();
    private static final String LETTERS = "srhn";
    private static final int[] DIGITS = {3, 4, 2, 2};

    public static void main(String[] args) {
        roomFor60();
        bytesAreBytes();
        eachByteAtEachPlace();
        eachEnd();
        eachDigit();
        oneBehindTheOther();
        aFaultEndsAll();
        fullTapes();
        DUE.end();
    }

    private static void write(PalletRounds x, String text) {
        for (int i = 0; i < text.length(); i += 5) {
            int[] b = new int[5];
            int n = Math.min(5, text.length() - i);
            for (int k = 0; k < n; k++) b[k] = text.charAt(i + k);
            DUE.is("feed", x.feed(n, b[0], b[1], b[2], b[3], b[4]), i + n);
        }
    }

    private static void read(PalletRounds x, String text, int want) {
        write(x, text);
        DUE.is("text of '" + text + "'", x.text(), want);
        DUE.is("empty behind '" + text + "'", x.count(5), 0);
        DUE.is("an empty TAPE", x.text(), -100);
    }

    private static void roomFor60() {
        for (int n = 1; n <= 5; n++) {
            for (int size = 54; size <= 60; size++) {
                PalletRounds x = new PalletRounds();
                for (int i = 0; i < size; i++) x.feed(1, 'n', 0, 0, 0, 0);
                String about = n + " behind " + size;
                DUE.is(about, x.feed(n, 1, 2, 3, 4, 5), size + n <= 60 ? size + n : PalletRounds.FULL);
                DUE.is(about + ": bytes", x.count(5), size + n <= 60 ? size + n : size);
                DUE.is(about + ": read", x.text(), -101);
                DUE.is(about + ": room again", x.feed(n, 1, 2, 3, 4, 5), n);
            }
        }
    }

    private static void bytesAreBytes() {
        int[] wrong = {-1, 256, Integer.MIN_VALUE, Integer.MAX_VALUE, 256 + 's', -256 + 's'};
        for (int n = 0; n <= 6; n++) {
            for (int place = 0; place < 5; place++) {
                PalletRounds x = new PalletRounds();
                int[] b = {0, 255, 's', '0', ';'};
                for (int v : wrong) {
                    b[place] = v;
                    DUE.is("9: byte " + v, x.feed(n, b[0], b[1], b[2], b[3], b[4]), PalletRounds.BAD);
                }
                DUE.is("9: nothing came", x.count(5), 0);
                b[place] = 255;
                DUE.is("9: byte 255", x.feed(n, b[0], b[1], b[2], b[3], b[4]), n >= 1 && n <= 5 ? n : PalletRounds.BAD);
            }
        }
    }

    /** As the model, which tries all texts of CLAUSES that begin so. */
    private static void eachByteAtEachPlace() {
        String base = "s021;r0001;h00;n03;s133";
        for (int place = 0; place <= base.length(); place++) {
            for (int v = 0; v < 256; v++) {
                String rest = place < base.length() ? base.substring(place + 1) : "";
                String text = base.substring(0, place) + (char) v + rest;
                PalletRounds x = new PalletRounds();
                Model m = new Model();
                write(x, text);
                for (int i = 0; i < text.length(); i++) m.feed(1, text.charAt(i), 0, 0, 0, 0);
                DUE.is("10: byte " + v + " at " + place, x.text(), m.text());
                for (int what = 0; what < 6; what++) DUE.is("10: count behind it", x.count(what), m.count(what));
                DUE.is("10: HOME behind it", x.of(0, 0), m.of(0, 0));
            }
        }
    }

    /** 'THE TAPE's size, if it ends too early': within a CLAUSE, and behind ; */
    private static void eachEnd() {
        String base = "s021;r0001;h00;n03";
        for (int size = 0; size <= base.length(); size++) {
            boolean whole = size == 4 || size == 10 || size == 14 || size == 18;
            int done = size == 4 ? 1 : size == 10 ? 2 : size == 14 ? 3 : 4;
            PalletRounds x = new PalletRounds();
            read(x, base.substring(0, size), whole ? done : -100 - size);
            DUE.is("10: done or not", x.count(0), whole ? 1 : 0);
        }
    }

    /** Any digit can stand for any number; what is done is just what the call does. */
    private static void eachDigit() {
        String scene = "station 1 1 1; station 2 2 2; home 0 1; parts 0 3; parts 1 3; route 1 1 0 4";
        for (int k = 0; k < 4; k++) {
            int all = 1;
            for (int i = 0; i < DIGITS[k]; i++) all *= 10;
            for (int v = 0; v < all; v++) {
                int[] d = new int[4];
                StringBuilder text = new StringBuilder().append(LETTERS.charAt(k));
                for (int i = 0, left = v; i < DIGITS[k]; i++, left /= 10) {
                    d[i] = left % 10;
                    text.append(d[i]);
                }
                PalletRounds x = Script.made(scene);
                PalletRounds y = Script.made(scene);
                write(x, text.toString());
                int got = x.text();
                DUE.is("10: " + text, got, called(y, k, d) >= PalletRounds.NONE ? 1 : 0);
                for (int what = 0; what < 3; what++) DUE.is("10: count behind " + text, x.count(what), y.count(what));
                for (int part = 0; part < 2; part++) {
                    DUE.is("10: HOME behind " + text, x.of(part, 0), y.of(part, 0));
                    DUE.is("10: PARTS behind " + text, x.of(part, 1), y.of(part, 1));
                }
                if (k == 0) sameStation(x, y, text.toString());
                if (k == 1 && got > 0) DUE.is("10: weight by " + text, x.route(d[0], d[1], d[2], 0), d[3]);
            }
        }
    }

    private static int called(PalletRounds x, int k, int[] d) {
        switch (k) {
            case 0: return x.station(d[0], d[1], d[2]);
            case 1: return x.route(d[0], d[1], d[2], d[3]);
            case 2: return x.home(d[0], d[1]);
            default: return x.parts(d[0], d[1]);
        }
    }

    private static void sameStation(PalletRounds x, PalletRounds y, String text) {
        for (int what = 0; what < 3; what++) DUE.is("10: STATION by " + text, x.told(2, what), y.told(2, what));
    }

    /** 'Done, one behind the other, as if called so; those that would be refused aren't.' */
    private static void oneBehindTheOther() {
        PalletRounds x = new PalletRounds();
        read(x, "h00;r0001;s012;h00;r0001", 3);
        read(x, "n06;n13;n12;n05;n13;n14", 4);
        DUE.is("10: 5 and 3", x.of(0, 1) * 10 + x.of(1, 1), 53);
        read(x, "h01;h11;r0011;s111;h11;r0011", 3);
        DUE.is("10: HOMES", x.of(0, 0) * 10 + x.of(1, 0), 1);
        read(x, "r0019;r0018;r0010", 3);
        DUE.is("10: the last weight", x.route(0, 0, 1, 0), 0);
        read(x, "s000;s110;s101;s411;h22;h02;n20;n07;r2000;r0200;r0020", 0);
        DUE.is("10: none of these", x.count(0) * 10 + x.count(1), 28);
        read(x, "n00;n10;n06", 3);
        DUE.is("10: 6 and 0", x.of(0, 1) * 10 + x.of(1, 1), 60);
    }

    private static void aFaultEndsAll() {
        PalletRounds x = Script.made("station 3 1 1; route 0 0 0 1; home 0 0; parts 0 2; begin; turn 5");
        read(x, "n01;s111;h0", -111);
        read(x, "n01;s111;h00;", -113);
        read(x, "n01 ;s111", -103);
        read(x, "n01; s111", -104);
        read(x, "n01;;s111", -104);
        read(x, ";n01", -100);
        read(x, "n01,s111", -103);
        read(x, "N01", -100);
        read(x, "n01;x", -104);
        read(x, "n-1", -101);
        read(x, "n 1", -101);
        read(x, "n1;n01", -102);
        read(x, "n001", -103);
        Script.run(DUE, "10: nothing was done", x, "count 0 = 1; count 1 = 2; count 3 = 2; count 4 = 5; passed 0 0 = 10");
    }

    private static void fullTapes() {
        PalletRounds x = new PalletRounds();
        // 60 bytes without FAULT, each CLAUSE done
        read(x, "s111;s222;s333;s144;s055;r0009;r0119;r0229;r0339;r0449;r1049", 11);
        DUE.is("10: ROUTES", x.count(2) * 10 + x.count(0), 65);
        // 59 bytes, as many CLAUSES as there can be
        read(x, "h00;h01;h02;h03;h04;h10;h11;h12;h13;h14;n06;n12;n00;n10;n05", 15);
        DUE.is("10: the last of them", x.of(0, 0) * 100 + x.of(1, 0) * 10 + x.of(0, 1), 445);
        read(x, "h00;h01;h02;h03;h04;h10;h11;h12;h13;h14;n06;n12;n00;n10;n05;", -160);
        read(x, "h00;h01;h02;h03;h04;h10;h11;h12;h13;h14;n06;n12;n00;n10;n05x", -159);
        read(x, "s111;s111;s111;s111;s111;s111;s111;s111;s111;s111;s111;s111", 0);
    }
}
