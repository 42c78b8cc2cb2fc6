import com.sun.management.ThreadMXBean;
import java.lang.management.ManagementFactory;

/** The room of a run: an object is small, and no call makes any object. */
public final class RoomTest {
    private static long spoil = 0;

    /** About all calls, 150 or so. */
    private static void useAll(PalletRounds x) {
        x.feed(5, 's', '0', '2', '1', ';');
        x.feed(4, 's', '3', '3', '3', 0);
        x.text();
        for (int s = 2; s < 5; s++) x.station(s - 1, 2, 2);
        for (int part = 0; part < 2; part++) {
            for (int s = 0; s < 5; s++) x.route(part, s, (s + 1) % 5, 1);
            x.home(part, 0);
            x.parts(part, 4);
            x.pay(part, 5);
        }
        for (int part = 0; part < 2; part++) {
            for (int s = 0; s < 5; s++) {
                for (int what = 0; what < 3; what++) spoil += x.mean(part, s, what, 0);
                spoil += x.visits(part, s, 0) + x.likely(part, s) + x.told(s, part) + x.busy(s, 0) + x.taken(s, 0);
            }
            for (int what = 0; what < 5; what++) spoil += x.rate(part, what, 0) + x.of(part, what);
            spoil += x.swift(part);
        }
        spoil += x.film(0) + x.odds(0, 0) + x.narrow() + x.constant(4, 4, 5, 0) + x.sound();
        x.begin();
        spoil += x.turn(60) + x.where(3, 0) + x.stands(0, 0) + x.passed(0, 0) + x.earned() + x.seed(4) + x.count(3);
        for (int sort = -1; sort < 3; sort++) x.sheet(1, sort, 40);
        spoil += x.put(1, 0, 1) + x.item(1, 0) + x.copy(1, 0, 1, 1, 9) + x.lay(1, 0, 0, 2, 0);
        spoil += x.image() + x.back();
    }

    public static void main(String[] args) {
        Due due = new Due();
        ThreadMXBean bean = (ThreadMXBean) ManagementFactory.getThreadMXBean();
        long self = Thread.currentThread().getId();
        useAll(new PalletRounds());
        PalletRounds[] many = new PalletRounds[100];
        bean.getThreadAllocatedBytes(self);
        long before = bean.getThreadAllocatedBytes(self);
        for (int i = 0; i < many.length; i++) many[i] = new PalletRounds();
        long made = bean.getThreadAllocatedBytes(self);
        for (PalletRounds x : many) useAll(x);
        long used = bean.getThreadAllocatedBytes(self);
        System.out.println((made - before) / many.length + " bytes an object, " + (used - made) + " for all calls");
        due.is("an object is below 8000 bytes", (made - before) / many.length < 8000 ? 1 : 0, 1);
        due.is("15000 calls make nothing", used - made < 20000 ? 1 : 0, 1);
        due.end();
    }
}
