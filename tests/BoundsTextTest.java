import java.util.List;

/** Promise 4: what a text tells, what holds where it tells nothing, and what a good and a bad one leave. */
final class BoundsTextTest {
    private static final Bounds BOUNDS = new Bounds();
    private static final String SORTS = "LOGS, 4 at most, FIELDS, 6 at most (a NAME, AREA 1 .. 99), numbered each from 0 on as they stand.";
    private static final String NOTCHES = "NOTCHES, 12 at most, 3 of a LOG at most: of a LOG, to where, WIDTH 0 .. 3, "
            + "numbered from 0 on as they stand.";
    private static final String DRAIN = "DRAIN: of a FIELD to a LOG, how many QUARTERS 0 .. 3 of its water (the last one told of it; else none).";
    private static final String LAWS = "LAWS: NEEDS (area), WORTH (flow), COSTS (1), SILTS (0), if not told; the last one.";
    private static final String FOUR_LOGS = "log a; log b; log c; log d; ";
    private static final String SIX_FIELDS = "field e 1; field f 99; field g 2; field h 98; field i 50; field j 7; ";
    private static final String OLD = "log a; log b; field f 9; field g 20; notch a f 1; notch a b 2; notch b g 1;"
            + "notch b river 2; drain g b 2; spring 3; seed 77; needs = 5; worth = 3; costs = 7; silts = 30;";

    public static void main(String[] args) {
        numbered();
        areas();
        notches();
        drains();
        springs();
        lawsNotTold();
        theLastLaws();
        seeds();
        nothingTold();
        changesNothing();
        changesNothingOfTheNext();
        inPlaceOfTheOneAhead();
        inPlaceOfMany();
        BOUNDS.end();
    }

    private static void numbered() {
        BOUNDS.sentence(4, SORTS);
        SluiceLogs logs = BOUNDS.of("field e 1; log a; field f 99; log b; log c; field g 2; field h 98; field i 50;"
                + "field j 7; log d; notch a d 1; notch d j 2; notch d e 3; notch b a 1;");
        BOUNDS.is("LOGS", logs.count(0), 4);
        BOUNDS.is("FIELDS", logs.count(1), 6);
        int[] ofLog = {0, 3, 3, 1};
        int[] to = {3, 15, 10, 0};
        for (int notch = 0; notch < 4; notch++) {
            BOUNDS.is("LOG of NOTCH " + notch, logs.notch(notch, 0), ofLog[notch]);
            BOUNDS.is("where NOTCH " + notch + " leads", logs.notch(notch, 1), to[notch]);
        }
        BOUNDS.is("LOG 4", logs.log(4, 3), -1);
        BOUNDS.is("FIELD 6", logs.field(6, 3), -1);
        BOUNDS.is("LOG 3", logs.log(3, 3), 6);
        BOUNDS.is("FIELD 5", logs.field(5, 9), 2);
    }

    private static void areas() {
        BOUNDS.sentence(4, SORTS);
        SluiceLogs logs = BOUNDS.of(SIX_FIELDS);
        int[] areas = {1, 99, 2, 98, 50, 7};
        for (int field = 0; field < 6; field++) {
            BOUNDS.is("AREA", logs.field(field, 3), areas[field]);
        }
        BOUNDS.fault("field e 0;", 5, 8);
        BOUNDS.fault("field e 100;", 5, 8);
    }

    private static void notches() {
        BOUNDS.sentence(4, NOTCHES);
        SluiceLogs logs = BOUNDS.of(FOUR_LOGS + "notch d a 0; notch d a 3; notch c a 1; notch a d 2; notch d river 3;"
                + "notch b b 0; notch b b 1; notch b b 2; notch a a 3; notch c c 1; notch c river 2; notch a a 1;");
        BOUNDS.is("NOTCHES", logs.count(2), 12);
        int[] ofLog = {3, 3, 2, 0, 3, 1, 1, 1, 0, 2, 2, 0};
        int[] width = {0, 3, 1, 2, 3, 0, 1, 2, 3, 1, 2, 1};
        for (int notch = 0; notch < 12; notch++) {
            BOUNDS.is("LOG of NOTCH " + notch, logs.notch(notch, 0), ofLog[notch]);
            BOUNDS.is("WIDTH of NOTCH " + notch, logs.notch(notch, 2), width[notch]);
        }
        int[] bits = {1 << 3 | 1 << 8 | 1 << 11, 7 << 5, 1 << 2 | 3 << 9, 3 | 1 << 4};
        for (int log = 0; log < 4; log++) {
            BOUNDS.is("NOTCHES of LOG " + log, logs.log(log, 3), bits[log]);
        }
        BOUNDS.is("NOTCH 12", logs.notch(12, 2), -1);
    }

    private static void drains() {
        BOUNDS.sentence(4, DRAIN);
        String text = "log a; log b; field f 1; field g 1; notch a f 1; ";
        String[] told = {"", "drain f b 0; ", "drain f b 3; ", "drain f b 3; drain f a 1; ", "drain f a 3; drain f b 0; ",
            "drain f a 1; drain g b 2; "};
        int[] quarters = {0, 0, 3, 1, 0, 1};
        int[] to = {-2, 1, 1, 0, 1, 0};
        for (int i = 0; i < told.length; i++) {
            SluiceLogs logs = BOUNDS.of(text + told[i]);
            BOUNDS.is("QUARTERS by " + told[i], logs.field(0, 7), quarters[i]);
            BOUNDS.is("LOG by " + told[i], logs.field(0, 8), to[i]);
            BOUNDS.is("QUARTERS of the other by " + told[i], logs.field(1, 7), i == 5 ? 2 : 0);
            BOUNDS.is("LOG of the other by " + told[i], logs.field(1, 8), i == 5 ? 1 : -2);
        }
    }

    private static void springs() {
        BOUNDS.sentence(4, "SPRING 1 .. 9 (8; the last one), into LOG 0.");
        String[] told = {"", "spring 1; ", "spring 9; ", "spring 9; spring 1; ", "spring 1; spring 9; ", "spring 3; spring 8; "};
        int[] springs = {8, 1, 9, 1, 9, 8};
        for (int i = 0; i < told.length; i++) {
            SluiceLogs logs = BOUNDS.of("log a; log b; " + told[i]);
            BOUNDS.is("SPRING by " + told[i], logs.count(5), springs[i]);
            BOUNDS.is("LOG 0 has by " + told[i], logs.log(0, 0), springs[i]);
            BOUNDS.is("LOG 1 has by " + told[i], logs.log(1, 0), 0);
        }
        BOUNDS.fault("spring 0;", 5, 7);
        BOUNDS.fault("spring 10;", 5, 7);
    }

    private static final String ONE = "log a; field f 60; notch a f 2; notch a river 2; spring 1; ";

    private static void laws(String told, int needs, int worth, int costs, int silts) {
        SluiceLogs logs = BOUNDS.of(ONE + told);
        BOUNDS.is("NEEDS by " + told, logs.field(0, 4), needs);
        BOUNDS.is("WORTH by " + told, logs.field(0, 5), worth);
        BOUNDS.is("COSTS by " + told, logs.notch(1, 3), costs);
        BOUNDS.is("SILTS by " + told, logs.notch(1, 4), silts);
    }

    private static void lawsNotTold() {
        BOUNDS.sentence(4, LAWS);
        laws("", 60, 50, 1, 0);
        laws("needs = 2; ", 2, 50, 1, 0);
        laws("worth = 2; ", 60, 2, 1, 0);
        laws("costs = 2; ", 60, 50, 2, 0);
        laws("silts = 2; ", 60, 50, 1, 2);
    }

    private static void theLastLaws() {
        BOUNDS.sentence(4, LAWS);
        laws("needs = 2; needs = 3; ", 3, 50, 1, 0);
        laws("worth = 2; needs = 4; worth = 3; ", 4, 3, 1, 0);
        laws("costs = if 1 < 2 then 5 else 6; costs = wide; silts = 9; silts = which; ", 60, 50, 2, 1);
        laws("needs = 1 / 0; needs = 4; needs = 1 / 0; worth = 7; ", 0, 7, 1, 0);
    }

    /** Three NOTCHES of WIDTH 3 behind a DAY by which a LOT below 50 stops. */
    private static void widths(String seeds, int due) {
        SluiceLogs logs = BOUNDS.of("log a; notch a river 3; notch a river 3; notch a river 3; silts = 50; " + seeds);
        logs.days(1);
        BOUNDS.is("WIDTHS by " + seeds, logs.notch(0, 2) * 100 + logs.notch(1, 2) * 10 + logs.notch(2, 2), due);
    }

    /** LOTS of day 0: SEED 0: 35 4 32, SEED 1: 3 70 97, SEED 217: 71 65 48, SEED 9999: 38 13 14. */
    private static void seeds() {
        BOUNDS.sentence(4, "SEED 0 .. 9999 (0): the last one.");
        widths("", 222);
        widths("seed 0;", 222);
        widths("seed 1;", 233);
        widths("seed 217;", 332);
        widths("seed 9999;", 222);
        widths("seed 9998;", 232);
        widths("seed 217; seed 1;", 233);
        widths("seed 1; seed 217;", 332);
        widths("seed 1; seed 0000;", 222);
    }

    private static void nothingTold() {
        BOUNDS.sentence(4, "text: {TELL}.");
        for (String text : List.of("", " ", "\n\n", " ".repeat(2000))) {
            SluiceLogs logs = BOUNDS.of(OLD);
            logs.step(0, true);
            Due.type(logs, text);
            BOUNDS.is("read of nothing", logs.read(), 0);
            BOUNDS.asMade("a text that tells nothing", SluiceLogs::new, logs);
        }
    }

    /** With all that a text may change: done things, what was TOLD, what is held. */
    private static SluiceLogs used() {
        SluiceLogs logs = BOUNDS.of(OLD);
        logs.step(0, true);
        logs.drain(0, 1, 3);
        logs.hold(0);
        logs.hold(1);
        logs.spring(5);
        logs.days(3);
        logs.tell(0, 1, true);
        logs.tell(1, 2, false);
        logs.hold(2);
        return logs;
    }

    private static void changesNothing() {
        BOUNDS.sentence(4, "A text with a FAULT changes nothing but the tape");
        List<String> texts = List.of("log x; field y 3; spring 2; seed 4; needs = 1; !",
                "log x; log y; log z; log w; log v;", "log x; log x;", "log x; spring 9; notch y x 1;", "spring 1; spring 0;",
                "log x; notch x x 1; notch x x 1; notch x x 1; notch x x 1;", "field f 1; needs = 1 / 0; worth = 99", "!");
        int[] places = {47, 28, 11, 23, 17, 52, 36, 0};
        int[] faults = {1, 2, 3, 4, 5, 6, 1, 1};
        for (int i = 0; i < faults.length; i++) {
            String text = texts.get(i);
            SluiceLogs logs = used();
            Due.type(logs, text);
            BOUNDS.is("read of " + text, logs.read(), faults[i]);
            BOUNDS.is("place in " + text, logs.place(), places[i]);
            BOUNDS.is("the tape is empty", logs.count(8), 0);
            BOUNDS.asMade("behind " + text, BoundsTextTest::used, logs);
        }
    }

    private static void changesNothingOfTheNext() {
        BOUNDS.sentence(4, "A text with a FAULT changes nothing but the tape");
        String good = "log a; field f 5; notch a f 1; notch a river 1; worth = 2 + 3 * 4; silts = 50; ";
        for (String bad : List.of("log b; log c; field x 7; notch b x 3; drain x c 3; spring 2; seed 1; silts = 100; !",
                "needs = 1 + 2 * (3 + 4 * (5 -", "needs = 1 + 2 * (", "worth = if 1 < 2 then 3 * (", "costs = 7; log a; log a;")) {
            for (int times = 1; times <= 3; times++) {
                SluiceLogs logs = new SluiceLogs();
                for (int i = 0; i < times; i++) {
                    Due.type(logs, bad);
                    BOUNDS.is("a bad one is read", logs.read() > 0, true);
                }
                Due.type(logs, good);
                BOUNDS.is("the good one is read", logs.read(), 0);
                BOUNDS.is("WORTH", logs.field(0, 5), 14);
                BOUNDS.is("WIDTH IN 1 DAY by SEED 0, not 1", logs.wideIn(1, 1), 0);
                BOUNDS.asMade("the good one behind " + bad, () -> BOUNDS.of(good), logs);
            }
        }
    }

    private static void inPlaceOfTheOneAhead() {
        BOUNDS.sentence(4, "else it is in place of the one ahead: day 0, nothing GROWN, nothing paid; nothing can be undone, "
                + "nothing is TOLD, SLOTS hold nothing.");
        for (String text : List.of("log c; field h 8; notch c h 2; notch c river 2;", OLD, "log a; log b;",
                "field f 1; field g 1;", "")) {
            SluiceLogs logs = used();
            BOUNDS.is("day ahead", logs.count(3), 3);
            BOUNDS.is("GROWN ahead", logs.count(12), 18);
            BOUNDS.is("paid ahead", logs.count(4), 7);
            BOUNDS.is("undone ahead", logs.count(9), 4);
            BOUNDS.is("TOLD ahead", logs.count(10), 2);
            BOUNDS.is("held ahead", logs.count(11), 3);
            Due.type(logs, text);
            BOUNDS.is("read of " + text, logs.read(), 0);
            for (int what : new int[] {3, 12, 4, 9, 10, 11}) {
                BOUNDS.is("count(" + what + ") behind", logs.count(what), 0);
            }
            BOUNDS.is("undo behind", logs.undo(), false);
            BOUNDS.is("fits behind", logs.fits(1, 0), -1);
            BOUNDS.is("restore behind", logs.restore(0) || logs.restore(1) || logs.restore(2), false);
            BOUNDS.asMade("as if told first", () -> BOUNDS.of(text), logs);
        }
    }

    private static void inPlaceOfMany() {
        BOUNDS.sentence(4, "else it is in place of the one ahead: day 0, nothing GROWN, nothing paid; nothing can be undone, "
                + "nothing is TOLD, SLOTS hold nothing.");
        String sum = "field f 1; needs = " + "1+".repeat(196) + "1;";
        SluiceLogs logs = used();
        for (int times = 1; times <= 6; times++) {
            Due.type(logs, sum);
            BOUNDS.is("read of 400 TOKENS", logs.read(), 0);
            BOUNDS.is("NEEDS by them", logs.field(0, 4), 197);
            Due.type(logs, OLD);
            BOUNDS.is("read", logs.read(), 0);
            BOUNDS.is("NEEDS", logs.field(0, 4), 5);
            BOUNDS.is("SILTS", logs.notch(0, 4), 30);
        }
        String last = "log c; field x 1; notch c x 1; ";
        for (String text : List.of("log a; log b; field f 9; field g 20; notch a f 1; notch a b 1; ", "silts = 50; " + last, last)) {
            for (int times = 1; times <= 3; times++) {
                Due.type(logs, OLD);
                BOUNDS.is("read", logs.read(), 0);
                for (int i = 1; i <= times; i++) {
                    Due.type(logs, text);
                    BOUNDS.is("read of " + text, logs.read(), 0);
                }
                BOUNDS.is("never told", logs.field(0, 8), -2);
                BOUNDS.is("QUARTERS", logs.field(logs.count(1) - 1, 7), 0);
                BOUNDS.is("SPRING", logs.count(5), 8);
                boolean silts = text.startsWith("silts");
                BOUNDS.is("SILTS", logs.notch(0, 4), silts ? 50 : 0);
                BOUNDS.is("WIDTH IN 1 DAY by SEED 0, not 77", logs.wideIn(0, 1), silts ? 0 : 1);
            }
        }
        BOUNDS.asMade("the last of many", () -> BOUNDS.of(last), logs);
    }
}
