import java.lang.management.ManagementFactory;

/** All that a run makes must fit into one room: an object is made small, and no call makes anything. */
final class RoomTest {
    private static final Due DUE = new Due();
    private static final com.sun.management.ThreadMXBean THREADS =
            (com.sun.management.ThreadMXBean) ManagementFactory.getThreadMXBean();

    public static void main(String[] args) {
        SluiceLogs logs = new SluiceLogs();
        everyCall(logs, 1);
        long before = bytes();
        for (int round = 0; round < 20; round++) {
            everyCall(logs, round);
        }
        long made = bytes() - before;
        DUE.due("a call makes nothing: " + made + " bytes", made < 20_000, true);
        before = bytes();
        SluiceLogs other = new SluiceLogs();
        made = bytes() - before;
        DUE.due("an object is small: " + made + " bytes", made < 60_000, true);
        DUE.due("count", other.count(5), 8);
        DUE.end();
    }

    private static long bytes() {
        return THREADS.getThreadAllocatedBytes(Thread.currentThread().getId());
    }

    private static void everyCall(SluiceLogs x, int seed) {
        // "log " "a;fi" "eld " "f 5;" "    " / "notc" "h a " "f 1;" "need" "s=3;"
        x.feed(0x6c6f6720, 0x613b6669, 0x656c6420, 0x6620353b, 0x20202020);
        x.feed(0x6e6f7463, 0x68206120, 0x6620313b, 0x6e656564, 0x733d333b);
        x.back(0);
        x.read();
        x.place();
        x.step(0, true);
        x.drain(0, 0, 1 + seed % 3);
        x.spring(3);
        x.days(3);
        x.hold(0);
        x.undo();
        for (int what = 0; what < 14; what++) {
            x.log(0, what);
            x.field(0, what);
            x.notch(0, what);
            x.river(what);
            x.count(what);
        }
        x.round();
        x.lacking();
        x.dry();
        x.feels(0, true, 0);
        x.unfelt();
        x.best(0, 0);
        x.tempted();
        x.mend(-1);
        x.feeds(0);
        x.hangs(0);
        x.spread();
        x.richest();
        x.crop(9);
        x.again(0, 2);
        x.swap();
        x.grownIn(0, 9);
        x.wideIn(0, 9);
        x.year(0, 9, 9);
        x.tell(0, 1, true);
        x.fits(1, 0);
        x.ask(1);
        x.forget();
        x.restore(0);
    }
}
