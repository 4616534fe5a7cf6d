/** Promises 33 to 36: what is TOLD, how much of it is KNOWN, which STEPS fit, whom to ask. */
final class BoundsToldTest {
    private static final Bounds BOUNDS = new Bounds();
    private static final int[] NO_SUCH = {-1, -2, Integer.MIN_VALUE, Integer.MAX_VALUE, 0x40000000, 100};
    private static final String TOLD = "TOLD: that by one STEP, done now and unknown, a FIELD FEELS so (0 as much, 1 more, 2 less), or does not; "
            + "20 at most, numbered from 0 on; KNOWN by k: the first k.";
    private static final String TELL = "It is TOLD: its number; NONE, and nothing happens: 20 are there, no such ones.";
    private static final String FIT = "STEPS THAT FIT: those that can be done by which all that is KNOWN would be so: how many; which (bits by their numbers).";
    private static final String ASK = "ASK: the FIELD of which, once it is told how it FEELS, fewest are left, at worst; of alike ones the first.";
    private static final String TEXT = "log a; log b; field f 9; field g 20; notch a f 1; notch a b 2; notch b g 1; notch b river 2; spring 9; ";

    public static void main(String[] args) {
        numberedFrom0();
        twentyAtMost();
        noSuchTale();
        soOrNot();
        forgotten();
        knownByK();
        noSuchKnown();
        thoseThatCanBeDone();
        byFloods();
        doneNow();
        askFewestAtWorst();
        askOfAlikeOnes();
        askNothing();
        askNone();
        BOUNDS.end();
    }

    private static SluiceLogs used() {
        SluiceLogs logs = BOUNDS.of(TEXT);
        logs.step(3, true);
        logs.hold(0);
        logs.spring(4);
        logs.tell(0, 1, true);
        logs.tell(1, 2, false);
        Due.type(logs, "!");
        return logs;
    }

    private static SluiceLogs told(int many) {
        SluiceLogs logs = BOUNDS.of(TEXT);
        for (int i = 0; i < many; i++) {
            logs.tell(i % 2, i % 3, i % 5 == 0);
        }
        return logs;
    }

    private static void numberedFrom0() {
        BOUNDS.sentence(33, TOLD);
        SluiceLogs logs = BOUNDS.of(TEXT);
        for (int i = 0; i < 20; i++) {
            BOUNDS.is("tell", logs.tell(i % 2, i % 3, i % 5 == 0), i);
            BOUNDS.is("TOLD ones", logs.count(10), i + 1);
        }
        BOUNDS.asMade("twenty TOLD", () -> told(20), logs);
    }

    private static void twentyAtMost() {
        BOUNDS.sentence(33, TELL);
        BOUNDS.is("the 20th", told(19).tell(0, 0, true), 19);
        BOUNDS.refused("a 21st", () -> told(20), x -> x.tell(0, 0, true), -1);
        BOUNDS.refused("a 21st that is not so", () -> told(20), x -> x.tell(1, 2, false), -1);
        SluiceLogs logs = told(20);
        logs.forget();
        BOUNDS.is("the first behind them", logs.tell(0, 0, true), 0);
    }

    private static void noSuchTale() {
        BOUNDS.sentence(33, TELL);
        BOUNDS.is("the last FIELD", used().tell(1, 0, true), 2);
        BOUNDS.is("as much", used().tell(0, 0, true), 2);
        BOUNDS.is("less", used().tell(0, 2, true), 2);
        BOUNDS.refused("FIELD 2 of 2", BoundsToldTest::used, x -> x.tell(2, 0, true), -1);
        BOUNDS.refused("feels 3", BoundsToldTest::used, x -> x.tell(0, 3, false), -1);
        for (int no : NO_SUCH) {
            BOUNDS.refused("FIELD " + no, BoundsToldTest::used, x -> x.tell(no, 0, true), -1);
            BOUNDS.refused("feels " + no, BoundsToldTest::used, x -> x.tell(0, no, false), -1);
        }
        BOUNDS.refused("no FIELDS", SluiceLogs::new, x -> x.tell(0, 0, true), -1);
    }

    /** By the STEPS 0 .. 7, f FEELS 2 1 1 2 0 0 0 0, g FEELS 1 2 2 1 2 1 1 2. */
    private static void soOrNot() {
        BOUNDS.sentence(35, TOLD);
        int[][] so = {{240, 6, 9}, {0, 1 | 8 | 32 | 64, 2 | 4 | 16 | 128}};
        for (int field = 0; field <= 1; field++) {
            for (int feels = 0; feels <= 2; feels++) {
                SluiceLogs is = BOUNDS.of(TEXT);
                is.tell(field, feels, true);
                BOUNDS.is("so: FIELD " + field + " " + feels, is.fits(1, 1), so[field][feels]);
                BOUNDS.is("how many", is.fits(1, 0), Integer.bitCount(so[field][feels]));
                SluiceLogs not = BOUNDS.of(TEXT);
                not.tell(field, feels, false);
                BOUNDS.is("not so: FIELD " + field + " " + feels, not.fits(1, 1), 255 - so[field][feels]);
                BOUNDS.is("how many", not.fits(1, 0), 8 - Integer.bitCount(so[field][feels]));
            }
        }
    }

    private static void forgotten() {
        BOUNDS.sentence(34, "All that was TOLD is forgotten: how many there were.");
        for (int many : new int[] {0, 1, 19, 20}) {
            SluiceLogs logs = told(many);
            BOUNDS.is("forget", logs.forget(), many);
            BOUNDS.is("TOLD ones", logs.count(10), 0);
            BOUNDS.is("KNOWN by 1", logs.fits(1, 0), -1);
            BOUNDS.is("forget", logs.forget(), 0);
            BOUNDS.asMade("forgotten", () -> told(0), logs);
        }
    }

    private static void knownByK() {
        BOUNDS.sentence(35, TOLD);
        SluiceLogs logs = BOUNDS.of(TEXT);
        logs.tell(0, 0, true);
        logs.tell(1, 1, true);
        logs.tell(1, 1, false);
        int[] which = {255, 240, 96, 0};
        int[] many = {8, 4, 2, 0};
        for (int k = 0; k < which.length; k++) {
            BOUNDS.is("how many, KNOWN by " + k, logs.fits(k, 0), many[k]);
            BOUNDS.is("which, KNOWN by " + k, logs.fits(k, 1), which[k]);
        }
        BOUNDS.is("KNOWN by 4 of 3", logs.fits(4, 0), -1);
        SluiceLogs twenty = BOUNDS.of(TEXT);
        for (int i = 0; i < 19; i++) {
            twenty.tell(0, 0, true);
        }
        twenty.tell(0, 0, false);
        BOUNDS.is("KNOWN by 19", twenty.fits(19, 1), 240);
        BOUNDS.is("KNOWN by 20", twenty.fits(20, 1), 0);
        BOUNDS.is("KNOWN by 21", twenty.fits(21, 1), -1);
    }

    private static void noSuchKnown() {
        BOUNDS.sentence(35, "STEPS THAT FIT, as KNOWN by k: what 0 how many, 1 which (bits); NONE: no such ones.");
        BOUNDS.refused("k 2 of 2", BoundsToldTest::used, x -> x.fits(2, 0), 0);
        BOUNDS.refused("k 3 of 2", BoundsToldTest::used, x -> x.fits(3, 0), -1);
        BOUNDS.refused("what 2", BoundsToldTest::used, x -> x.fits(0, 2), -1);
        for (int no : NO_SUCH) {
            BOUNDS.refused("k " + no, BoundsToldTest::used, x -> x.fits(no, 0), -1);
            BOUNDS.refused("what " + no, BoundsToldTest::used, x -> x.fits(0, no), -1);
        }
        BOUNDS.is("nothing TOLD, k 0", BOUNDS.of(TEXT).fits(0, 0), 8);
        BOUNDS.is("nothing TOLD, k 1", BOUNDS.of(TEXT).fits(1, 0), -1);
        BOUNDS.is("nothing, k 0", new SluiceLogs().fits(0, 1), 0);
    }

    private static void thoseThatCanBeDone() {
        BOUNDS.sentence(35, FIT);
        SluiceLogs logs = BOUNDS.of("log a; field f 1; notch a f 3; notch a river 0; ");
        logs.tell(0, 0, true);
        logs.tell(0, 2, false);
        BOUNDS.is("nothing KNOWN", logs.fits(0, 1), 1 | 8);
        BOUNDS.is("as much", logs.fits(1, 1), 1);
        BOUNDS.is("and not less", logs.fits(2, 1), 1);
        SluiceLogs last = BOUNDS.of("log a; log b; log c; log d; " + "notch a river 0; ".repeat(3) + "notch b river 3; ".repeat(3)
                + "notch c river 3; ".repeat(3) + "notch d river 0; ".repeat(3));
        BOUNDS.is("of twelve NOTCHES", last.fits(0, 1), 2 | 8 | 32 | 21 << 6 | 21 << 12 | 42 << 18);
        BOUNDS.is("how many", last.fits(0, 0), 12);
        BOUNDS.is("no NOTCHES", BOUNDS.of("log a; field f 1; ").fits(0, 1), 0);
    }

    private static void byFloods() {
        BOUNDS.sentence(35, "FEELS of a STEP and a FIELD: whether it has more by it (1), less (2), or as much (0; a FLOOD before or behind: 0).");
        SluiceLogs logs = BOUNDS.of("log a; log b; field f 1; notch a f 1; notch a b 0; notch b b 1; ");
        logs.tell(0, 0, true);
        logs.tell(0, 0, false);
        BOUNDS.is("a FLOOD behind is as much", logs.fits(1, 1), 2 | 8 | 16 | 32);
        BOUNDS.is("and not as much", logs.fits(2, 1), 0);
        logs.step(1, true);
        BOUNDS.is("a FLOOD before is as much", logs.fits(1, 1), 63);
        BOUNDS.is("ask in a FLOOD", logs.ask(1), 0);
        BOUNDS.is("ask where none is left", logs.ask(2), -2);
    }

    private static void doneNow() {
        BOUNDS.sentence(35, TOLD);
        SluiceLogs logs = BOUNDS.of(TEXT);
        logs.tell(0, 2, true);
        BOUNDS.is("now", logs.fits(1, 1), 1 | 8);
        logs.step(0, false);
        BOUNDS.is("it has nothing to lose", logs.fits(1, 1), 0);
        BOUNDS.is("what is TOLD stays", logs.count(10), 1);
        logs.undo();
        BOUNDS.is("undone", logs.fits(1, 1), 1 | 8);
        logs.step(1, true);
        BOUNDS.is("NOTCH 1 is of WIDTH 3", logs.fits(1, 1), 1);
    }

    private static void askFewestAtWorst() {
        BOUNDS.sentence(36, ASK);
        // f: 4 as much, 2 more, 2 less; g: 4 more, 4 less
        SluiceLogs logs = BOUNDS.of(TEXT);
        BOUNDS.is("4 at worst, each", logs.ask(0), 0);
        // 4 5 6 7 are left, of which f tells nothing, and g halves them
        logs.tell(0, 0, true);
        BOUNDS.is("4 at worst or 2", logs.ask(1), 1);
        logs.tell(1, 1, true);
        BOUNDS.is("2 at worst, each", logs.ask(2), 0);
        // by the STEPS 0, 3, 5 f FEELS 0 2 2, g 0 1 0, h 0 0 1: 2 at worst, each
        String rest = "notch a f 3; notch a g 0; notch a h 0; ";
        BOUNDS.is("f, g, h", BOUNDS.of("log a; field f 1; field g 1; field h 1; " + rest).ask(0), 0);
        BOUNDS.is("g, f, h", BOUNDS.of("log a; field g 1; field f 1; field h 1; " + rest).ask(0), 0);
        SluiceLogs less = BOUNDS.of("log a; field g 1; field f 1; field h 1; " + rest);
        less.tell(1, 2, true);
        BOUNDS.is("f has less: 1 at worst by g, 2 by f", less.ask(1), 0);
        // g is led to, f is not
        SluiceLogs one = BOUNDS.of("log a; field f 1; field g 1; notch a g 2; notch a river 1; ");
        BOUNDS.is("all or half", one.ask(0), 1);
        SluiceLogs other = BOUNDS.of("log a; field g 1; field f 1; notch a g 2; notch a river 1; ");
        BOUNDS.is("half or all", other.ask(0), 0);
    }

    private static void askOfAlikeOnes() {
        BOUNDS.sentence(36, ASK);
        String three = "log a; field f 1; field g 1; field h 1; ";
        BOUNDS.is("none tells anything", BOUNDS.of(three + "notch a river 1; ").ask(0), 0);
        BOUNDS.is("g and h alike", BOUNDS.of(three + "notch a g 1; notch a h 1; ").ask(0), 1);
        BOUNDS.is("f and h alike", BOUNDS.of(three + "notch a f 1; notch a h 1; ").ask(0), 0);
        BOUNDS.is("the last of six", BOUNDS.of("log a; field e 1; field f 1; field g 1; field h 1; field i 1; field j 1; "
                + "notch a river 1; notch a j 1; ").ask(0), 5);
        SluiceLogs all = BOUNDS.of("log a; log b; log c; log d; field f 1; " + "notch a a 1; ".repeat(3) + "notch b b 1; ".repeat(3)
                + "notch c c 1; ".repeat(3) + "notch d d 1; ".repeat(3));
        BOUNDS.is("all 24 left at worst", all.ask(0), 0);
    }

    private static void askNothing() {
        BOUNDS.sentence(36, "ASK, as KNOWN by k; -2: none is left, no FIELDS; NONE: no such k.");
        BOUNDS.is("no FIELDS", BOUNDS.of("log a; notch a river 1; ").ask(0), -2);
        BOUNDS.is("no NOTCHES", BOUNDS.of("log a; field f 1; ").ask(0), -2);
        BOUNDS.is("nothing", new SluiceLogs().ask(0), -2);
        SluiceLogs logs = BOUNDS.of("log a; field f 1; notch a f 1; notch a river 3; ");
        logs.tell(0, 1, true);
        logs.tell(0, 2, true);
        BOUNDS.is("STEPS left", logs.fits(1, 0), 2);
        BOUNDS.is("some are left", logs.ask(1), 0);
        BOUNDS.is("STEPS left", logs.fits(2, 0), 0);
        BOUNDS.is("none is left", logs.ask(2), -2);
        SluiceLogs last = BOUNDS.of("log a; field f 1; notch a f 0; ");
        last.tell(0, 1, false);
        BOUNDS.is("one is left", last.ask(0), 0);
        BOUNDS.is("that one is not", last.ask(1), -2);
    }

    private static void askNone() {
        BOUNDS.sentence(36, "ASK, as KNOWN by k; -2: none is left, no FIELDS; NONE: no such k.");
        BOUNDS.refused("k 2 of 2", BoundsToldTest::used, x -> x.ask(2), -2);
        BOUNDS.refused("k 3 of 2", BoundsToldTest::used, x -> x.ask(3), -1);
        for (int no : NO_SUCH) {
            BOUNDS.refused("k " + no, BoundsToldTest::used, x -> x.ask(no), -1);
        }
        BOUNDS.sentence(36, "Where NONE and -2 could both be told, it is NONE, if it is not told otherwise.");
        BOUNDS.is("no FIELDS, no such k", BOUNDS.of("log a; notch a river 1; ").ask(1), -1);
        BOUNDS.is("no FIELDS, no such k", BOUNDS.of("log a; notch a river 1; ").ask(-1), -1);
        BOUNDS.is("none left, no such k", BOUNDS.of("log a; field f 1; ").ask(1), -1);
        BOUNDS.is("nothing, no such k", new SluiceLogs().ask(1), -1);
    }
}
