/** Promise 1. */
public final class NewObjectTest {
    public static void main(String[] args) {
        Due due = new Due();
        PalletRounds x = new PalletRounds();
        for (int what = 0; what <= 5; what++) {
            due.is("count(" + what + ")", x.count(what), 0);
        }
        for (int part = 0; part < 2; part++) {
            due.is("of(part, 0)", x.of(part, 0), PalletRounds.NONE);
            due.is("of(part, 1)", x.of(part, 1), 0);
            due.is("of(part, 2)", x.of(part, 2), 0);
            due.is("of(part, 3)", x.of(part, 3), 0);
        }
        due.is("sound()", x.sound(), 1);
        due.is("told(0, 0)", x.told(0, 0), PalletRounds.BAD);
        due.is("turn(1)", x.turn(1), PalletRounds.STATE);
        due.is("back()", x.back(), PalletRounds.STATE);
        due.is("earned()", x.earned(), 0);
        due.is("narrow()", x.narrow(), PalletRounds.NONE);
        for (int sheet = 0; sheet < 4; sheet++) {
            due.is("put(sheet, 0, 0)", x.put(sheet, 0, 0), -11);
        }
        due.is("seed(5)", x.seed(5), 1);
        due.is("seed(1)", x.seed(1), 5);
        due.end();
    }
}
