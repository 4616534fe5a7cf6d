/** Promises 18 to 24, 28 and 29: what would be, and where it is nothing, -2 or NONE. */
final class BoundsWouldTest {
    private static final Bounds BOUNDS = new Bounds();
    private static final int[] NO_SUCH = {-1, -2, Integer.MIN_VALUE, Integer.MIN_VALUE + 1, Integer.MAX_VALUE, 0x40000000, 100};
    private static final String NUMBER = "A STEP's number: twice the NOTCH's, and 1 more if it is CUT (not: STOPPED); "
            + "steps that can not be done are none.";
    private static final String FEELS = "FEELS of a STEP and a FIELD: whether it has more by it (1), less (2), or as much "
            + "(0; a FLOOD before or behind: 0).";
    private static final String UNFELT = "UNFELT: STEPS that can be done that no FIELD FEELS.";
    private static final String BEST = "BEST of a FIELD: the STEP by which it has most, more than now, of alike ones the lowest "
            + "(FLOOD: none); FLOW then.";
    private static final String NONE_OR_2 = "Where NONE and -2 could both be told, it is NONE, if it is not told otherwise.";
    private static final String TEMPTED = "TEMPTED: FIELDS that would have more by some STEP at a NOTCH of a LOG that has a NOTCH leading "
            + "to that FIELD, of WIDTH above 0.";
    private static final String MEND = "MEND: the fewest STEPS (0 .. 3) behind which it is no FLOOD and no FIELD is LACKING; their numbers, "
            + "none ahead of a lower one, each of which can be done when those ahead of it are: of as few the lowest first, then the next one.";
    private static final String MEND_OF_I = "MEND: how many (i NONE), else the i-th STEP's number; -2: not by 3 (i NONE or not); "
            + "NONE: not so many, i below that.";
    private static final String FEEDS = "FEEDS of a FIELD: FIELDS, itself, too, to which what is drained from it comes, by whatever way of "
            + "NOTCHES of WIDTHS above 0 and DRAINS of QUARTERS above 0.";
    private static final String HANGS = "HANGS of a FIELD that has more than 0: NOTCHES without which (WIDTH 0) it would be DRY (a FLOOD: not).";
    private static final String AGAIN = "AGAIN of quarters (0 .. 3) and a FIELD: its FLOW, were so many of its own QUARTERS drained to where "
            + "they are (told none: LOG 0).";
    private static final String SWAP = "SWAP: the two NOTCHES, their WIDTHS exchanged, by which fewest FIELDS are LACKING, fewer than now, "
            + "of alike ones the first (100 * the lesser + the other).";
    private static final String TEXT = "log a; log b; field f 9; field g 20; notch a f 1; notch a b 2; notch b g 1; notch b river 2; "
            + "spring 9; needs = area * 10 + 50; ";
    /** Cut of NOTCH 1, and it is one. */
    private static final String BEFORE_A_FLOOD = "log a; log b; field f 1; notch a f 1; notch a b 0; notch b b 1; ";
    /** f has 1 / 343. */
    private static final String DROPS = "log a; log b; log c; field f 1; notch a b 1; notch a river 3; notch a river 3; notch b c 1; "
            + "notch b river 3; notch b river 3; notch c f 1; notch c river 3; notch c river 3; spring 1; ";

    public static void main(String[] args) {
        numbers();
        moreLessAsMuch();
        floodBeforeOrBehind();
        feelsNone();
        unfelt();
        unfeltInAFlood();
        bestMoreThanNow();
        bestOfThoseThatCanBeDone();
        bestOfAlikeOnes();
        bestInAFlood();
        bestNone();
        tempted();
        temptedByALog();
        mendBy0To3();
        mendTheLowest();
        mendThatCanBeDone();
        mendOfAFlood();
        mendOfI();
        feedsAbove0();
        feedsItself();
        feedsNone();
        hangs();
        hangsByAFlood();
        again();
        againNone();
        swap();
        swapOfAlikeOnes();
        nothingHappens();
        allToOne();
        asMuchAsThereCanBe();
        BOUNDS.end();
    }

    private static void numbers() {
        BOUNDS.sentence(18, NUMBER);
        for (int width = 0; width <= 3; width++) {
            SluiceLogs logs = BOUNDS.of("log a; log b; notch a river 1; notch b river " + width + "; ");
            int bits = (width > 0 ? 4 : 0) | (width < 3 ? 8 : 0);
            BOUNDS.is("can be done by WIDTH " + width, logs.count(13), 3 | bits);
            BOUNDS.is("UNFELT by WIDTH " + width, logs.unfelt(), 3 | bits);
            BOUNDS.is("fit by WIDTH " + width, logs.fits(0, 1), 3 | bits);
            BOUNDS.is("how many fit by WIDTH " + width, logs.fits(0, 0), 2 + Integer.bitCount(bits));
        }
        SluiceLogs last = BOUNDS.of("log a; log b; log c; log d; field f 1; " + "notch a river 1; ".repeat(3) + "notch b f 3; ".repeat(3)
                + "notch c f 3; ".repeat(3) + "notch d f 0; ".repeat(2) + "notch d river 0; ");
        BOUNDS.is("of NOTCHES 9 to 11 a CUT only", last.count(13) >> 18, 2 | 8 | 32);
    }

    private static void moreLessAsMuch() {
        BOUNDS.sentence(18, FEELS);
        SluiceLogs logs = BOUNDS.of("log a; log b; field f 1; field g 1; notch a f 1; notch a g 1; notch b f 1; ");
        int[] f = {2, 1, 1, 2, 0, 0};
        int[] g = {1, 2, 2, 1, 0, 0};
        for (int step = 0; step < f.length; step++) {
            BOUNDS.is("f by " + step, logs.feels(step / 2, step % 2 == 1, 0), f[step]);
            BOUNDS.is("g by " + step, logs.feels(step / 2, step % 2 == 1, 1), g[step]);
        }
        SluiceLogs all = BOUNDS.of("log a; field f 1; notch a f 2; notch a river 0; ");
        BOUNDS.is("it has all already", all.feels(0, true, 0), 0);
        BOUNDS.is("it has all still", all.feels(0, false, 0), 0);
        BOUNDS.is("less than all", all.feels(1, true, 0), 2);
        SluiceLogs drops = BOUNDS.of(DROPS);
        BOUNDS.is("FLOW of a drop", drops.field(0, 2), 0);
        BOUNDS.is("a drop more", drops.feels(0, true, 0), 1);
        BOUNDS.is("a drop less", drops.feels(1, false, 0), 1);
        BOUNDS.is("less than a drop", drops.feels(8, false, 0), 1);
        BOUNDS.is("no drop", drops.feels(6, false, 0), 2);
        SluiceLogs one = BOUNDS.of(DROPS.replace("notch a river 3; notch a river 3;", "notch a river 2; notch a river 3;"));
        BOUNDS.is("a drop less", one.feels(1, true, 0), 2);
    }

    private static void floodBeforeOrBehind() {
        BOUNDS.sentence(18, FEELS);
        SluiceLogs logs = BOUNDS.of(BEFORE_A_FLOOD);
        BOUNDS.is("behind", logs.feels(1, true, 0), 0);
        BOUNDS.is("not", logs.feels(0, false, 0), 2);
        logs.step(1, true);
        BOUNDS.is("before", logs.feels(1, false, 0), 0);
        BOUNDS.is("before and behind", logs.feels(0, false, 0), 0);
        logs.step(1, false);
        BOUNDS.is("not", logs.feels(0, false, 0), 2);
    }

    private static SluiceLogs used() {
        SluiceLogs logs = BOUNDS.of(TEXT + "silts = 40; worth = wide; ");
        logs.step(0, false);
        logs.hold(2);
        logs.drain(0, 1, 2);
        logs.step(3, true);
        logs.tell(1, 1, true);
        return logs;
    }

    private static void feelsNone() {
        BOUNDS.sentence(18, "FEELS; NONE: it can not be done, no such ones.");
        BOUNDS.refused("stop of WIDTH 0", BoundsWouldTest::used, x -> x.feels(0, false, 0), -1);
        BOUNDS.refused("cut of WIDTH 3", BoundsWouldTest::used, x -> x.feels(3, true, 0), -1);
        BOUNDS.refused("cut of WIDTH 0", BoundsWouldTest::used, x -> x.feels(0, true, 0), 1);
        BOUNDS.refused("stop of WIDTH 3", BoundsWouldTest::used, x -> x.feels(3, false, 1), 1);
        BOUNDS.refused("NOTCH 4 of 4", BoundsWouldTest::used, x -> x.feels(4, true, 0), -1);
        BOUNDS.refused("FIELD 2 of 2", BoundsWouldTest::used, x -> x.feels(0, true, 2), -1);
        for (int no : NO_SUCH) {
            BOUNDS.is("NOTCH " + no, used().feels(no, true, 0), -1);
            BOUNDS.is("NOTCH " + no + " stopped", used().feels(no, false, 0), -1);
            BOUNDS.is("FIELD " + no, used().feels(0, true, no), -1);
        }
        BOUNDS.is("a FLOOD, no such FIELD", BOUNDS.of(BEFORE_A_FLOOD).feels(1, true, 1), -1);
    }

    private static void unfelt() {
        BOUNDS.sentence(19, UNFELT);
        SluiceLogs logs = BOUNDS.of("log a; log b; field f 1; field g 1; notch a f 3; notch b g 0; notch b river 2; notch a g 0; ");
        // 0 leaves f all it has, 1 and 2 and 6 can not be done, 7 takes from f and gives to g; nothing comes to b
        BOUNDS.is("UNFELT", logs.unfelt(), 1 | 8 | 16 | 32);
        logs.step(3, true);
        BOUNDS.is("UNFELT where all is shared", logs.unfelt(), 8 | 16 | 32);
        BOUNDS.is("a drop is felt", BOUNDS.of(DROPS).unfelt(), 0);
        BOUNDS.is("no FIELDS", BOUNDS.of("log a; notch a river 1; notch a river 0; ").unfelt(), 1 | 2 | 8);
        BOUNDS.is("no NOTCHES", BOUNDS.of("log a; field f 1; ").unfelt(), 0);
        BOUNDS.is("nothing", new SluiceLogs().unfelt(), 0);
        BOUNDS.is("six FIELDS", BOUNDS.of("log a; field e 1; field f 1; field g 1; field h 1; field i 1; field j 1; "
                + "notch a river 1; ").unfelt(), 3);
        String two = "log a; field f 1; field g 1; notch a river 1; ";
        BOUNDS.is("the first of two FEELS", BOUNDS.of(two + "notch a f 1; ").unfelt(), 0);
        BOUNDS.is("the last of two FEELS", BOUNDS.of(two + "notch a g 1; ").unfelt(), 0);
    }

    private static void unfeltInAFlood() {
        BOUNDS.sentence(19, UNFELT);
        SluiceLogs logs = BOUNDS.of(BEFORE_A_FLOOD);
        // 0 is felt, 1 leaves all, 3 is a FLOOD behind, 4 and 5 are where nothing comes
        BOUNDS.is("before it", logs.unfelt(), 2 | 8 | 16 | 32);
        logs.step(1, true);
        BOUNDS.is("in it", logs.unfelt(), 1 | 2 | 4 | 8 | 16 | 32);
    }

    private static void best(SluiceLogs logs, int field, int step, int flow) {
        BOUNDS.is("BEST of " + field, logs.best(field, 0), step);
        BOUNDS.is("FLOW then", logs.best(field, 1), flow);
    }

    private static void bestMoreThanNow() {
        BOUNDS.sentence(20, BEST);
        best(BOUNDS.of(TEXT), 0, 1, 450);
        best(BOUNDS.of(TEXT), 1, 0, 300);
        best(BOUNDS.of("log a; field f 1; notch a f 2; "), 0, -2, -2);
        best(BOUNDS.of("log a; field f 1; notch a f 2; notch a river 1; "), 0, 2, 800);
        best(BOUNDS.of("log a; field f 1; notch a river 1; "), 0, -2, -2);
        best(BOUNDS.of("log a; field f 1; notch a f 0; "), 0, 1, 800);
        best(BOUNDS.of("field f 1; "), 0, -2, -2);
        SluiceLogs drops = BOUNDS.of(DROPS);
        best(drops, 0, 1, 0);
        BOUNDS.is("FLOW now", drops.field(0, 2), 0);
    }

    /** What another question made up is none of the STEPS. */
    private static void bestOfThoseThatCanBeDone() {
        BOUNDS.sentence(20, NUMBER);
        SluiceLogs logs = BOUNDS.of("log a; field f 1; notch a f 0; notch a river 1; notch a f 1; ");
        for (int quarters = 0; quarters <= 3; quarters++) {
            logs.again(0, quarters);
            best(logs, 0, 2, 800);
        }
        SluiceLogs all = BOUNDS.of("log a; field f 1; field g 1; notch a river 0; notch a f 3; ");
        all.again(0, 3);
        best(all, 0, -2, -2);
        all.again(0, 3);
        BOUNDS.is("TEMPTED", all.tempted(), 0);
        all.again(0, 3);
        BOUNDS.is("UNFELT", all.unfelt(), 4);
        all.again(0, 3);
        BOUNDS.is("ask", all.ask(0), 0);
    }

    private static void bestOfAlikeOnes() {
        BOUNDS.sentence(20, BEST);
        String three = "log a; field f 1; field g 1; field h 1; notch a f 1; notch a g 1; notch a h 1; ";
        // for each: its CUT, and each STOP of another one, all give 8 / 2
        best(BOUNDS.of(three), 0, 1, 400);
        best(BOUNDS.of(three), 1, 0, 400);
        best(BOUNDS.of(three), 2, 0, 400);
        best(BOUNDS.of(three.replace("notch a h 1", "notch a h 2")), 0, 1, 320);
        best(BOUNDS.of(three.replace("notch a f 1", "notch a f 2")), 1, 3, 320);
        best(BOUNDS.of(three.replace("notch a g 1", "notch a g 3")), 1, 0, 600);
    }

    private static void bestInAFlood() {
        BOUNDS.sentence(20, BEST);
        SluiceLogs behind = BOUNDS.of(BEFORE_A_FLOOD);
        best(behind, 0, -2, -2);
        behind.step(1, true);
        best(behind, 0, -2, -2);
        // 1 and 6 give f more, 3 is a FLOOD
        best(BOUNDS.of(BEFORE_A_FLOOD + "notch a river 1; "), 0, 6, 800);
    }

    private static void bestNone() {
        BOUNDS.sentence(20, "-2: none; NONE: no such ones.");
        BOUNDS.refused("FIELD 2 of 2", BoundsWouldTest::used, x -> x.best(2, 0), -1);
        BOUNDS.refused("what 2", BoundsWouldTest::used, x -> x.best(0, 2), -1);
        for (int no : NO_SUCH) {
            BOUNDS.is("FIELD " + no, used().best(no, 0), -1);
            BOUNDS.is("FLOW of FIELD " + no, used().best(no, 1), -1);
            BOUNDS.is("what " + no, used().best(0, no), -1);
        }
        BOUNDS.sentence(20, NONE_OR_2);
        SluiceLogs none = BOUNDS.of("log a; field f 1; notch a f 2; ");
        BOUNDS.is("none", none.best(0, 1), -2);
        BOUNDS.is("none, and no such FIELD", none.best(1, 1), -1);
        BOUNDS.is("none, and no such what", none.best(0, 2), -1);
        BOUNDS.is("none, and no such what", none.best(0, -1), -1);
        BOUNDS.is("nothing", new SluiceLogs().best(0, 0), -1);
    }

    private static void tempted() {
        BOUNDS.sentence(21, TEMPTED);
        SluiceLogs logs = BOUNDS.of("log a; field f 1; field g 1; notch a f 0; notch a g 1; notch a river 1; ");
        BOUNDS.is("f is led to by WIDTH 0", logs.tempted(), 2);
        BOUNDS.is("though f would have more", logs.feels(0, true, 0), 1);
        logs.step(0, true);
        BOUNDS.is("by WIDTH 1", logs.tempted(), 3);
        SluiceLogs all = BOUNDS.of("log a; field f 1; notch a f 3; notch a river 0; ");
        BOUNDS.is("f has all", all.tempted(), 0);
        all.step(1, true);
        BOUNDS.is("f has not all", all.tempted(), 1);
        BOUNDS.is("by WIDTH 3, by a STOP of the first", BOUNDS.of("log a; field f 1; notch a river 1; notch a f 3; ").tempted(), 1);
        BOUNDS.is("by a drop", BOUNDS.of(DROPS).tempted(), 1);
        BOUNDS.is("in a FLOOD", BOUNDS.of(BEFORE_A_FLOOD.replace("a b 0", "a b 1")).tempted(), 0);
        BOUNDS.is("by a FLOOD behind", BOUNDS.of(BEFORE_A_FLOOD).tempted(), 0);
        BOUNDS.is("no FIELDS", BOUNDS.of("log a; notch a river 1; ").tempted(), 0);
        BOUNDS.is("all six", BOUNDS.of("log a; log b; field e 1; field f 1; field g 1; field h 1; field i 1; field j 1; log c; "
                + "notch a e 1; notch a f 1; notch a b 1; notch b g 1; notch b h 1; notch b c 1; notch c i 1; notch c j 1; ").tempted(), 63);
    }

    private static void temptedByALog() {
        BOUNDS.sentence(21, TEMPTED);
        String far = "log a; log b; field f 1; notch a b 3; notch a river 1; notch b f 3; ";
        BOUNDS.is("only at another LOG", BOUNDS.of(far).tempted(), 0);
        BOUNDS.is("more by it", BOUNDS.of(far).best(0, 0), 2);
        BOUNDS.is("a NOTCH of WIDTH 0 at that LOG", BOUNDS.of(far + "notch a f 0; ").tempted(), 0);
        BOUNDS.is("a NOTCH of WIDTH 1 at that LOG", BOUNDS.of(far + "notch a f 1; ").tempted(), 1);
    }

    private static void mends(SluiceLogs logs, int... steps) {
        BOUNDS.is("how many", logs.mend(-1), steps.length);
        for (int i = 0; i < steps.length; i++) {
            BOUNDS.is("STEP " + i, logs.mend(i), steps[i]);
        }
        BOUNDS.is("not so many", logs.mend(steps.length), -1);
    }

    private static void mendNot(SluiceLogs logs) {
        for (int i : new int[] {-1, 0, 1, 2, 3, 4, 100, Integer.MAX_VALUE}) {
            BOUNDS.is("mend(" + i + "), not by 3", logs.mend(i), -2);
        }
    }

    /** f needs as much as all the river has: each STEP brings it nearer by one. */
    private static void mendBy0To3() {
        BOUNDS.sentence(22, MEND);
        String half = "log a; field f 50; spring 1; ";
        mends(BOUNDS.of(half + "notch a f 2; notch a river 2; "));
        mends(BOUNDS.of(half + "notch a f 1; notch a river 2; "), 1);
        mends(BOUNDS.of(half + "notch a f 1; notch a river 3; "), 1, 1);
        mends(BOUNDS.of(half + "notch a f 0; notch a river 3; notch a river 0; "), 1, 1, 1);
        mendNot(BOUNDS.of(half + "notch a f 0; notch a river 3; notch a river 1; "));
        mendNot(BOUNDS.of("field f 1; "));
        mends(BOUNDS.of("field f 1; needs = 0; "));
        mends(new SluiceLogs());
    }

    private static void mendTheLowest() {
        BOUNDS.sentence(22, MEND);
        String half = "log a; field f 50; spring 1; ";
        mends(BOUNDS.of(half + "notch a river 2; notch a f 1; "), 0);
        mends(BOUNDS.of(half + "notch a river 3; notch a f 1; "), 0, 0);
        mends(BOUNDS.of(half + "notch a river 1; notch a river 2; notch a f 1; "), 0, 2);
        mends(BOUNDS.of(half + "notch a river 2; notch a river 1; notch a f 1; "), 0, 0);
        mends(BOUNDS.of(half + "notch a river 1; notch a f 0; notch a river 1; "), 0, 3);
        mends(BOUNDS.of(half + "notch a river 1; notch a f 0; notch a river 2; "), 0, 3, 3);
        mends(BOUNDS.of("log a; field f 50; field g 50; notch a f 3; notch a g 0; spring 1; "), 0, 0, 3);
    }

    private static void mendThatCanBeDone() {
        BOUNDS.sentence(22, MEND);
        String needs = "log a; field f 75; spring 1; ";
        // 3 / 4: f can be cut once only
        mends(BOUNDS.of(needs + "notch a f 2; notch a river 2; "), 1, 2);
        mends(BOUNDS.of(needs + "notch a f 3; notch a river 2; "), 2);
        // f of WIDTH 0: a STOP of it can not be done, nor one of the river that is at 0 behind one
        mends(BOUNDS.of(needs + "notch a f 0; notch a river 1; "), 1, 2);
        mends(BOUNDS.of(needs + "notch a f 0; notch a river 2; "), 1, 2, 2);
        mendNot(BOUNDS.of(needs + "notch a f 0; notch a river 3; "));
        mendNot(BOUNDS.of(needs + "notch a f 1; notch a river 3; notch a river 1; "));
    }

    private static void mendOfAFlood() {
        BOUNDS.sentence(22, MEND);
        String ring = "log a; log b; field f 5; notch a b 1; notch b a 1; notch b f 0; ";
        mends(BOUNDS.of(ring), 5);
        mends(BOUNDS.of(ring + "needs = 0; "), 0);
        mends(BOUNDS.of("log a; notch a a 3; "), 0, 0, 0);
        mends(BOUNDS.of("log a; notch a a 2; "), 0, 0);
        mendNot(BOUNDS.of("log a; notch a a 3; notch a a 1; "));
        mends(BOUNDS.of("log a; notch a a 3; notch a river 0; "), 3);
        mends(BOUNDS.of("log a; notch a a 0; "));
    }

    private static void mendOfI() {
        BOUNDS.sentence(22, MEND_OF_I);
        String half = "log a; field f 50; spring 1; ";
        String[] rests = {"notch a f 2; notch a river 2; ", "notch a f 1; notch a river 2; ", "notch a f 1; notch a river 3; ",
            "notch a f 0; notch a river 3; "};
        for (int many = 0; many <= 3; many++) {
            SluiceLogs logs = BOUNDS.of(half + rests[many]);
            BOUNDS.is("how many", logs.mend(-1), many);
            for (int i = 0; i <= 4; i++) {
                BOUNDS.is(many + " STEPS, the one numbered " + i, logs.mend(i), i < many ? 1 : -1);
            }
            for (int no : new int[] {-2, -3, Integer.MIN_VALUE, Integer.MAX_VALUE}) {
                BOUNDS.is(many + " STEPS, the one numbered " + no, logs.mend(no), -1);
            }
        }
        mendNot(BOUNDS.of(half + "notch a f 0; notch a river 3; notch a river 1; "));
        BOUNDS.sentence(22, NONE_OR_2);
        BOUNDS.is("not by 3, i below NONE", BOUNDS.of(half).mend(-2), -1);
        BOUNDS.is("not by 3, i far below", BOUNDS.of(half).mend(Integer.MIN_VALUE), -1);
    }

    private static void feedsAbove0() {
        BOUNDS.sentence(23, FEEDS);
        String text = "log a; log b; field f 1; field g 1; field h 1; notch a f 1; notch b g 1; notch b h 0; drain f b ";
        BOUNDS.is("never told", BOUNDS.of(text + "0; drain g a 3; ").feeds(2), 0);
        BOUNDS.is("0 QUARTERS", BOUNDS.of(text + "0; ").feeds(0), 0);
        BOUNDS.is("1 QUARTER", BOUNDS.of(text + "1; ").feeds(0), 2);
        BOUNDS.is("3 QUARTERS", BOUNDS.of(text + "3; ").feeds(0), 2);
        SluiceLogs logs = BOUNDS.of(text + "1; ");
        logs.step(2, true);
        BOUNDS.is("by WIDTH 1 to h", logs.feeds(0), 6);
        logs.step(1, false);
        BOUNDS.is("by WIDTH 0 to g", logs.feeds(0), 4);
        logs.step(2, false);
        BOUNDS.is("by no WIDTH", logs.feeds(0), 0);
    }

    private static void feedsItself() {
        BOUNDS.sentence(23, FEEDS);
        BOUNDS.is("itself", BOUNDS.of("log a; field f 1; notch a f 1; drain f a 1; ").feeds(0), 1);
        String ring = "log a; log b; field f 1; field g 1; notch a f 1; notch b g 1; drain f b 1; drain g a ";
        BOUNDS.is("by g, of 0 QUARTERS", BOUNDS.of(ring + "0; ").feeds(0), 2);
        BOUNDS.is("by g, of 1", BOUNDS.of(ring + "1; ").feeds(0), 3);
        // by four LOGS, each of the one before in number, and by two FIELDS
        String chain = "log a; log b; log c; log d; field f 1; field g 1; field h 1; notch a g 1; notch b a 1; notch c b 1; notch d c 1; "
                + "drain f d 1; ";
        BOUNDS.is("by four LOGS", BOUNDS.of(chain).feeds(0), 2);
        BOUNDS.is("by g then", BOUNDS.of(chain + "notch d h 1; drain g d 1; ").feeds(0), 6);
        BOUNDS.is("by g, itself too", BOUNDS.of(chain + "notch d h 1; drain g d 1; ").feeds(1), 6);
        String fields = "log a; log b; log c; log d; field f 1; field g 1; field h 1; field i 1; notch b f 1; notch c g 1; notch d h 1; "
                + "drain i d 1; drain h c 1; drain g b 1; ";
        BOUNDS.is("by FIELDS and LOGS in turn", BOUNDS.of(fields).feeds(3), 7);
        BOUNDS.is("into the river", BOUNDS.of("log a; field f 1; notch a river 1; drain f a 3; ").feeds(0), 0);
    }

    private static void feedsNone() {
        BOUNDS.sentence(23, "FEEDS (bits); NONE: no such FIELD.");
        BOUNDS.refused("FIELD 1 of 2", BoundsWouldTest::used, x -> x.feeds(1), 0);
        BOUNDS.refused("FIELD 2 of 2", BoundsWouldTest::used, x -> x.feeds(2), -1);
        for (int no : NO_SUCH) {
            BOUNDS.is("FIELD " + no, used().feeds(no), -1);
        }
        BOUNDS.is("no LOGS", BOUNDS.of("field f 1; ").feeds(0), 0);
    }

    private static void hangs() {
        BOUNDS.sentence(24, HANGS);
        SluiceLogs logs = BOUNDS.of(TEXT);
        BOUNDS.is("of f", logs.hangs(0), 1);
        BOUNDS.is("of g", logs.hangs(1), 2 | 4);
        logs.step(2, false);
        BOUNDS.is("it has 0", logs.hangs(1), 0);
        String two = "log a; log b; field f 1; notch a f 1; notch a b 1; notch b f ";
        BOUNDS.is("by two ways", BOUNDS.of(two + "1; ").hangs(0), 0);
        BOUNDS.is("by one way", BOUNDS.of(two + "0; ").hangs(0), 1);
        BOUNDS.is("by a drop", BOUNDS.of(DROPS).hangs(0), 1 | 8 | 64);
        BOUNDS.is("by a DRAIN", BOUNDS.of("log a; log b; field f 1; field g 1; notch a f 3; notch b g 3; drain f b 1; ").hangs(1), 3);
        BOUNDS.is("by a DRAIN of 0", BOUNDS.of("log a; log b; field f 1; field g 1; notch a f 3; notch b g 3; drain f b 0; ").hangs(1), 0);
        BOUNDS.sentence(24, "HANGS (bits; it has 0, FLOOD: 0); NONE: no such FIELD.");
        BOUNDS.refused("FIELD 0 of 2, which has 0", BoundsWouldTest::used, x -> x.hangs(0), 0);
        BOUNDS.refused("FIELD 1 of 2", BoundsWouldTest::used, x -> x.hangs(1), 6);
        BOUNDS.refused("FIELD 2 of 2", BoundsWouldTest::used, x -> x.hangs(2), -1);
        for (int no : NO_SUCH) {
            BOUNDS.is("FIELD " + no, used().hangs(no), -1);
        }
        BOUNDS.is("no LOGS", BOUNDS.of("field f 1; ").hangs(0), 0);
    }

    private static void hangsByAFlood() {
        BOUNDS.sentence(24, HANGS);
        BOUNDS.is("a FLOOD without", BOUNDS.of("log a; field f 1; notch a f 1; notch a a 1; ").hangs(0), 0);
        BOUNDS.is("dry without", BOUNDS.of("log a; field f 1; notch a f 1; notch a a 0; ").hangs(0), 1);
        SluiceLogs flood = BOUNDS.of(BEFORE_A_FLOOD.replace("a b 0", "a b 1"));
        BOUNDS.is("in a FLOOD", flood.hangs(0), 0);
        BOUNDS.is("in a FLOOD, no such FIELD", flood.hangs(1), -1);
        flood.step(1, false);
        BOUNDS.is("behind it", flood.hangs(0), 1);
    }

    private static void again() {
        BOUNDS.sentence(28, AGAIN);
        // f = a / 3, a = 9 + q f / 4
        int[] dues = {300, 327, 360, 400};
        for (int quarters = 0; quarters <= 3; quarters++) {
            int q = quarters;
            BOUNDS.is("told none: LOG 0, " + q, BOUNDS.of(TEXT).again(0, q), dues[q]);
            BOUNDS.is("LOG 1, no way back, " + q, BOUNDS.of(TEXT + "drain f b 2; ").again(0, q), 300);
            BOUNDS.is("told of LOG 0, " + q, BOUNDS.of(TEXT + "drain f a 2; ").again(0, q), dues[q]);
        }
        SluiceLogs flood = BOUNDS.of("log a; log b; field f 1; notch a f 1; notch b b 1; drain f b 0; ");
        BOUNDS.is("no FLOOD", flood.again(0, 0), 800);
        BOUNDS.is("a FLOOD then", flood.again(0, 1), 0);
        flood.drain(0, 1, 1);
        BOUNDS.is("no FLOOD then", flood.again(0, 0), 800);
    }

    private static void againNone() {
        BOUNDS.sentence(28, "AGAIN; NONE: no such ones, no LOGS.");
        BOUNDS.refused("4 QUARTERS", BoundsWouldTest::used, x -> x.again(1, 4), -1);
        BOUNDS.refused("3 QUARTERS", BoundsWouldTest::used, x -> x.again(1, 3), 276);
        BOUNDS.refused("FIELD 2 of 2", BoundsWouldTest::used, x -> x.again(2, 0), -1);
        for (int no : NO_SUCH) {
            BOUNDS.is("FIELD " + no, used().again(no, 0), -1);
            BOUNDS.is(no + " QUARTERS", used().again(0, no), -1);
        }
        BOUNDS.is("no LOGS", BOUNDS.of("field f 1; ").again(0, 0), -1);
        BOUNDS.is("a LOG", BOUNDS.of("log a; field f 1; ").again(0, 0), 0);
        BOUNDS.is("nothing", new SluiceLogs().again(0, 0), -1);
    }

    private static void swap() {
        BOUNDS.sentence(29, SWAP);
        BOUNDS.is("fewer", BOUNDS.of(TEXT).swap(), 203);
        BOUNDS.is("none is LACKING", BOUNDS.of(TEXT + "needs = 0; ").swap(), -2);
        BOUNDS.is("as few", BOUNDS.of("log a; field f 99; field g 99; notch a f 1; notch a g 2; spring 1; ").swap(), -2);
        BOUNDS.is("another, but as few", BOUNDS.of("log a; field f 1; field g 1; notch a f 1; notch a g 0; ").swap(), -2);
        BOUNDS.is("one fewer", BOUNDS.of("log a; field f 1; notch a river 1; notch a f 0; ").swap(), 1);
        BOUNDS.sentence(29, "SWAP; -2: none.");
        BOUNDS.is("one NOTCH", BOUNDS.of("log a; field f 1; notch a f 0; ").swap(), -2);
        BOUNDS.is("no NOTCHES", BOUNDS.of("field f 1; ").swap(), -2);
        BOUNDS.is("nothing", new SluiceLogs().swap(), -2);
    }

    private static void swapOfAlikeOnes() {
        BOUNDS.sentence(29, SWAP);
        BOUNDS.is("the first", BOUNDS.of("log a; field f 50; notch a river 1; notch a river 1; notch a f 0; spring 1; ").swap(), 2);
        BOUNDS.is("the first, from 1 on", BOUNDS.of("log a; field f 50; notch a f 0; notch a river 1; notch a river 1; spring 1; ").swap(), 1);
        // all but the fewest: 0 and 1 give one FIELD, 1 and 2 two
        BOUNDS.is("the fewest, not the first", BOUNDS.of("log a; log b; field f 1; field g 1; field h 1; notch a f 0; notch a river 1; "
                + "notch a b 0; notch b g 1; notch b h 1; ").swap(), 102);
        String last = "log a; log b; log c; log d; field f 1; " + "notch a a 0; ".repeat(2) + "notch b b 0; ".repeat(3)
                + "notch c c 0; ".repeat(3) + "notch d d 0; ".repeat(2);
        BOUNDS.is("the lesser and the other", BOUNDS.of(last + "notch d d 2; notch a f 0; ").swap(), 1011);
        BOUNDS.is("the other way round", BOUNDS.of(last + "notch a f 0; notch d d 2; ").swap(), 1011);
    }

    private static void nothingHappens() {
        BOUNDS.sentence(22, "What would be (nothing happens; no silt but in IN n DAYS and YEAR).");
        BOUNDS.refused("mend", BoundsWouldTest::used, x -> x.mend(-1), 2);
        BOUNDS.refused("unfelt", BoundsWouldTest::used, x -> x.unfelt(), 4 | 8);
        BOUNDS.refused("best", BoundsWouldTest::used, x -> x.best(0, 0), 1);
        BOUNDS.refused("tempted", BoundsWouldTest::used, x -> x.tempted(), 2);
        BOUNDS.refused("swap", BoundsWouldTest::used, x -> x.swap(), 3);
        BOUNDS.refused("again", BoundsWouldTest::used, x -> x.again(0, 0), 0);
        BOUNDS.refused("round", BoundsWouldTest::used, x -> x.round(), 0);
        BOUNDS.refused("spread", BoundsWouldTest::used, x -> x.spread(), 225);
        BOUNDS.refused("richest", BoundsWouldTest::used, x -> x.richest(), 1);
    }

    private static void allToOne() {
        BOUNDS.sentence(21, TEMPTED);
        SluiceLogs logs = BOUNDS.of("log a; log b; log c; log d; field f 1; notch a f 1; notch a b 1; notch a c 1; notch b f 1; notch b f 2; "
                + "notch b d 1; notch c f 1; notch c f 2; notch c f 3; notch d f 1; notch d f 2; notch d f 3; ");
        BOUNDS.is("f has all", logs.field(0, 2), 800);
        BOUNDS.is("TEMPTED", logs.tempted(), 0);
        best(logs, 0, -2, -2);
        BOUNDS.is("UNFELT", logs.unfelt(), logs.count(13));
        BOUNDS.is("fit", logs.fits(0, 0), 22);
    }

    /** a parts 9 among b, c, d, each of these 3 among two FIELDS; the last NOTCH of each is of WIDTH 0. */
    private static void asMuchAsThereCanBe() {
        BOUNDS.sentence(19, "LOGS, 4 at most, FIELDS, 6 at most (a NAME, AREA 1 .. 99), numbered each from 0 on as they stand. "
                + "NOTCHES, 12 at most, 3 of a LOG at most");
        String text = "log a; log b; log c; log d; field e 99; field f 99; field g 99; field h 99; field i 99; field j 99; "
                + "notch a b 1; notch a c 1; notch a d 1; notch b e 1; notch b f 1; notch b river 0; notch c g 1; notch c h 1; "
                + "notch c river 0; notch d i 1; notch d j 1; notch d river 0; spring 9; worth = 2; seed 77; silts = 0; ";
        SluiceLogs logs = BOUNDS.of(text);
        BOUNDS.is("STEPS that can be done", logs.count(13), (1 << 24) - 1 - (1 << 10) - (1 << 16) - (1 << 22));
        BOUNDS.is("FLOWS", logs.count(7), 900);
        BOUNDS.is("UNFELT", logs.unfelt(), 0);
        BOUNDS.is("TEMPTED", logs.tempted(), 63);
        BOUNDS.is("LACKING", logs.lacking(), 0);
        BOUNDS.is("DRY", logs.dry(), 0);
        BOUNDS.is("FEELS", logs.feels(11, true, 5), 2);
        BOUNDS.is("FEELS of NOTCH 12", logs.feels(12, true, 5), -1);
        best(logs, 0, 8, 300);
        best(logs, 5, 18, 300);
        mends(logs);
        BOUNDS.is("HANGS", logs.hangs(5), 4 | 1 << 10);
        BOUNDS.is("SWAP", logs.swap(), -2);
        BOUNDS.is("CROP", logs.crop(60), 720);
        BOUNDS.is("GROWN IN 60", logs.grownIn(5, 60), 120);
        BOUNDS.is("WIDTH IN 60", logs.wideIn(11, 60), 0);
        BOUNDS.is("YEAR", logs.year(5, 60, 20), 0);
        BOUNDS.is("AGAIN", logs.again(5, 3), 171);
        BOUNDS.is("fits", logs.fits(0, 0), 21);
        // each FIELD FEELS 11 of them, those of a and of its own LOG
        BOUNDS.is("ask", logs.ask(0), 0);
        BOUNDS.is("SPREAD", logs.spread(), 0);
        BOUNDS.is("RICHEST", logs.richest(), 0);
        BOUNDS.is("days", logs.days(60), 60);
        BOUNDS.is("GROWN", logs.count(12), 720);
        BOUNDS.is("drain", logs.drain(5, 0, 3), true);
        BOUNDS.is("FEEDS", logs.feeds(5), 63);
        BOUNDS.is("NOTCHES of LOG 3", logs.log(3, 3), 7 << 9);
        BOUNDS.is("WIDTHS of LOG 3", logs.log(3, 2), 2);
        BOUNDS.is("restore", logs.hold(2) && logs.restore(2), true);
        BOUNDS.asMade("told twice", () -> BOUNDS.of(text), BOUNDS.of(text));
        SluiceLogs thirsty = BOUNDS.of(text + "needs = which / 5 * 151; ");
        BOUNDS.is("LACKING", thirsty.lacking(), 32);
        // a stop of NOTCH 0 is the lowest by which d has more: 9 / 2 / 2
        mends(thirsty, 0);
        // NOTCH 9's WIDTH 1 for 11's WIDTH 0 gives j no more; 0 of NOTCH 5 for NOTCH 0's gives d more
        BOUNDS.is("SWAP", thirsty.swap(), 5);
    }
}
