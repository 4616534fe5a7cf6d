/** Promises 33 to 36: what is told of the STEP at night, and whom to ask next. */
final class TellTest {
    private static final Due DUE = new Due();
    private static final String TEXT = "log a; log b; field f 9; field g 20; notch a f 1; notch a b 2; notch b g 1;"
            + "notch b river 2; spring 9;";

    public static void main(String[] args) {
        tells();
        fits();
        asks();
        byFloods();
        byWhatIsNow();
        DUE.end();
    }

    private static void tells() {
        SluiceLogs logs = DUE.of(TEXT);
        DUE.due("no such field", logs.tell(2, 0, true), -1);
        DUE.due("no such field", logs.tell(-1, 0, true), -1);
        DUE.due("no such feeling", logs.tell(0, 3, true), -1);
        DUE.due("no such feeling", logs.tell(0, -1, false), -1);
        for (int i = 0; i < 20; i++) {
            DUE.due("tell", logs.tell(i % 2, i % 3, false), i);
            DUE.due("told", logs.count(10), i + 1);
        }
        DUE.due("20 are there", logs.tell(0, 0, true), -1);
        DUE.due("told", logs.count(10), 20);
        DUE.due("fits 20", logs.fits(20, 0), 0);
        DUE.due("forget", logs.forget(), 20);
        DUE.due("forget", logs.forget(), 0);
        DUE.due("tell", logs.tell(0, 2, true), 0);
        DUE.due("fits", logs.fits(1, 1), 1 | 8);
    }

    // how f and g feel the steps 0 .. 7: see WouldTest
    private static void fits() {
        SluiceLogs logs = DUE.of(TEXT);
        DUE.due("nothing known", logs.fits(0, 0), 8);
        DUE.due("nothing known", logs.fits(0, 1), 255);
        logs.tell(0, 1, true);
        logs.tell(1, 2, false);
        DUE.due("f has more", logs.fits(1, 0), 2);
        DUE.due("f has more", logs.fits(1, 1), 2 | 4);
        DUE.due("and g has not less", logs.fits(2, 0), 0);
        DUE.due("and g has not less", logs.fits(2, 1), 0);
        DUE.due("nothing known", logs.fits(0, 0), 8);
        logs.forget();
        logs.tell(0, 0, true);
        logs.tell(1, 1, true);
        DUE.due("f as much", logs.fits(1, 1), 16 | 32 | 64 | 128);
        DUE.due("and g more", logs.fits(2, 1), 32 | 64);
        logs.forget();
        logs.tell(0, 1, false);
        DUE.due("f not more", logs.fits(1, 1), 255 - 2 - 4);
        for (int wrong : new int[] {-1, 2, Integer.MIN_VALUE, Integer.MAX_VALUE}) {
            DUE.due("k " + wrong, logs.fits(wrong, 0), -1);
            DUE.due("what " + wrong, logs.fits(0, wrong), -1);
            DUE.due("ask " + wrong, logs.ask(wrong), -1);
        }
        SluiceLogs ends = DUE.of("log a; field f 1; notch a f 3; notch a river 0;");
        DUE.due("only what can be done", ends.fits(0, 1), 1 | 8);
        ends.tell(0, 0, true);
        DUE.due("only what can be done", ends.fits(1, 1), 1);
    }

    private static void asks() {
        SluiceLogs logs = DUE.of(TEXT);
        DUE.due("alike: the first", logs.ask(0), 0);
        logs.tell(0, 0, true);
        DUE.due("g tells more", logs.ask(1), 1);
        logs.tell(1, 1, true);
        DUE.due("nobody tells more", logs.ask(2), 0);
        logs.tell(1, 1, false);
        DUE.due("none is left", logs.ask(3), -2);
        DUE.due("no such k", logs.ask(4), -1);
        DUE.due("no fields", DUE.of("log a; notch a river 1;").ask(0), -2);
        DUE.due("no fields, no such k", DUE.of("log a; notch a river 1;").ask(1), -1);
        DUE.due("no notches", DUE.of("field f 1;").ask(0), -2);
        // steps 0, 3 and 5: h feels 0 1 0, f feels 0 2 2
        String rest = "notch a f 3; notch a h 0; notch a river 0;";
        DUE.due("at worst two, each", DUE.of("log a; field h 1; field f 1;" + rest).ask(0), 0);
        DUE.due("at worst two, each", DUE.of("log a; field f 1; field h 1;" + rest).ask(0), 0);
        SluiceLogs all = DUE.of("log a; log b; log c; log d; field f 1;" + "notch a a 1;".repeat(3) + "notch b b 1;".repeat(3)
                + "notch c c 1;".repeat(3) + "notch d d 1;".repeat(3));
        DUE.due("all 24 left", all.ask(0), 0);
        DUE.due("all 24 fit", all.fits(0, 0), 24);
        SluiceLogs empty = new SluiceLogs();
        DUE.due("empty", empty.ask(0), -2);
        DUE.due("empty", empty.ask(1), -1);
        DUE.due("empty", empty.fits(0, 1), 0);
    }

    private static void byFloods() {
        SluiceLogs flood = DUE.of("log a; log b; field f 1; notch a f 1; notch a b 0; notch b b 1;");
        flood.tell(0, 0, true);
        // 0 makes f's log lose all into the river, 1 changes nothing, 3 is a flood, 4 and 5 nothing
        DUE.due("as much by a flood behind", flood.fits(1, 1), 2 | 8 | 16 | 32);
        flood.step(1, true);
        DUE.due("as much by a flood ahead", flood.fits(1, 1), flood.count(13));
        DUE.due("ask", flood.ask(0), 0);
    }

    private static void byWhatIsNow() {
        SluiceLogs logs = DUE.of(TEXT);
        logs.tell(0, 2, true);
        DUE.due("fits", logs.fits(1, 1), 1 | 8);
        logs.step(0, false);
        DUE.due("it has nothing to lose now", logs.fits(1, 1), 0);
        logs.undo();
        logs.step(1, true);
        DUE.due("the notch can not be cut more", logs.fits(1, 1), 1);
    }
}
