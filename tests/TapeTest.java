/** Promises 2 and 3, and what of 4 and 5 is about the tape. */
final class TapeTest {
    private static final Due DUE = new Due();

    public static void main(String[] args) {
        howMany();
        theHighestByteFirst();
        whatWasTakenBack();
        whatAFullTapeHolds();
        DUE.end();
    }

    private static void howMany() {
        SluiceLogs logs = new SluiceLogs();
        DUE.due("back(0)", logs.back(0), 0);
        DUE.due("back(1)", logs.back(1), -1);
        for (int i = 1; i <= 100; i++) {
            DUE.due("feed", logs.feed(i, i, i, i, i), 20 * i);
        }
        DUE.due("feed when full", logs.feed(1, 2, 3, 4, 5), -1);
        DUE.due("count(8)", logs.count(8), 2000);
        DUE.due("back(19)", logs.back(19), 1981);
        DUE.due("feed of one too many", logs.feed(1, 2, 3, 4, 5), -1);
        DUE.due("count(8)", logs.count(8), 1981);
        DUE.due("back(1)", logs.back(1), 1980);
        DUE.due("feed", logs.feed(1, 2, 3, 4, 5), 2000);
        DUE.due("back(-1)", logs.back(-1), -1);
        DUE.due("back(2001)", logs.back(2001), -1);
        DUE.due("back of the least int", logs.back(Integer.MIN_VALUE), -1);
        DUE.due("back of the greatest int", logs.back(Integer.MAX_VALUE), -1);
        DUE.due("count(8)", logs.count(8), 2000);
        DUE.due("back(0)", logs.back(0), 2000);
        DUE.due("back(2000)", logs.back(2000), 0);
        DUE.due("read", logs.read(), 0);
        DUE.due("place", logs.place(), -1);
    }

    private static void theHighestByteFirst() {
        SluiceLogs logs = new SluiceLogs();
        // "log " "top;" "log " "low;" "  !\u00ff"
        logs.feed(0x6c6f6720, 0x746f703b, 0x6c6f6720, 0x6c6f773b, 0x202021ff);
        DUE.due("read", logs.read(), 1);
        DUE.due("place", logs.place(), 18);
        logs.feed(0x6c6f6720, 0x746f703b, 0x6c6f6720, 0x6c6f773b, 0x20202020);
        DUE.due("read", logs.read(), 0);
        DUE.due("count(0)", logs.count(0), 2);
        logs.feed(-1, -1, -1, -1, -1);
        DUE.due("read", logs.read(), 1);
        DUE.due("place", logs.place(), 0);
    }

    private static void whatWasTakenBack() {
        SluiceLogs logs = new SluiceLogs();
        Due.type(logs, "log a; log b; log c;");
        DUE.due("back(6)", logs.back(6), 14);
        Due.type(logs, "log d; log e;");
        DUE.due("count(8)", logs.count(8), 27);
        DUE.due("count(0)", logs.count(0), 0);
        DUE.due("read", logs.read(), 0);
        DUE.due("count(0)", logs.count(0), 4);
        DUE.due("count(8)", logs.count(8), 0);
        DUE.due("back(1)", logs.back(1), -1);
    }

    private static void whatAFullTapeHolds() {
        SluiceLogs logs = new SluiceLogs();
        Due.type(logs, "log a; field f 5;" + " ".repeat(1976) + "seed 1;");
        DUE.due("count(8)", logs.count(8), 2000);
        DUE.due("feed", logs.feed(0x21212121, 0x21212121, 0x21212121, 0x21212121, 0x21212121), -1);
        DUE.due("read", logs.read(), 0);
        DUE.due("count(1)", logs.count(1), 1);
    }
}
