/** Promises 9 to 13, 37 and 38: what is done by hand, what is refused, how much can be undone, what SLOTS hold. */
final class BoundsHandTest {
    private static final Bounds BOUNDS = new Bounds();
    private static final int[] NO_SUCH = {-1, -2, Integer.MIN_VALUE, Integer.MIN_VALUE + 1, Integer.MAX_VALUE, 0x40000000, 100};
    private static final String TEXT = "log a; log b; field f 9; field g 20; notch a f 0; notch a b 3; notch b g 1; notch b river 2; "
            + "drain g b 2; spring 3; seed 77; worth = 3; costs = wide * 10 + which + day; silts = 30; ";
    private static final String A_STEP = "A STEP: a NOTCH is CUT (WIDTH 1 more, 3 at most), or STOPPED (1 less, 0 at least).";
    private static final String STEP = "A STEP is done: what is paid; NONE, and nothing happens: it can not be, no such NOTCH.";
    private static final String DRAIN = "A DRAIN is set: true; false, and nothing happens: it is so, no such ones.";
    private static final String SPRING = "The SPRING is set (1 .. 9): true; false, and nothing happens: it is so, no such one.";
    private static final String DAYS = "n DAYS (0 .. 60; 0 is no thing done) go by: which it is; NONE, and nothing happens: no such n.";
    private static final String UNDO = "The last thing done (step, drain, spring, days) is undone: true; false: there is none (the last 40 can be).";
    private static final String HOLD = "All that goes on (not what is TOLD, nor the tape) is held in a SLOT (0 .. 2): true; false: no such one.";
    private static final String RESTORE = "It goes on from what a SLOT holds (that stays there; nothing can be undone then): true; "
            + "false, and nothing happens: no such one, nothing is held.";

    public static void main(String[] args) {
        cutAndStopped();
        whatIsPaid();
        stepsThatCanNotBe();
        drainsThatAreSet();
        drainsThatAreSo();
        noSuchDrains();
        springs();
        noSuchSprings();
        daysGoBy();
        noSuchDays();
        eachThingIsUndone();
        thereIsNone();
        theLast40();
        whatIsNoThing();
        heldInASlot();
        noSuchSlot();
        whatIsHeld();
        stayThere();
        nothingCanBeUndoneThen();
        nothingIsHeld();
        BOUNDS.end();
    }

    /** With things to undo, things TOLD, SLOTS that hold and bytes on the tape; NOTCH 0 is of WIDTH 0, NOTCH 1 of 3. */
    private static SluiceLogs used() {
        SluiceLogs logs = BOUNDS.of(TEXT);
        logs.step(3, false);
        logs.drain(0, 1, 3);
        logs.hold(1);
        logs.spring(5);
        logs.tell(0, 1, true);
        logs.tell(1, 2, false);
        Due.type(logs, "log x; log y");
        return logs;
    }

    private static void cutAndStopped() {
        BOUNDS.sentence(9, A_STEP);
        for (int width = 0; width <= 3; width++) {
            String text = "log a; notch a river " + width + "; notch a river 1; ";
            SluiceLogs cut = BOUNDS.of(text);
            BOUNDS.is("cut of WIDTH " + width, cut.step(0, true), width < 3 ? 1 : -1);
            BOUNDS.is("WIDTH then", cut.notch(0, 2), Math.min(3, width + 1));
            SluiceLogs stopped = BOUNDS.of(text);
            BOUNDS.is("stop of WIDTH " + width, stopped.step(0, false), width > 0 ? 1 : -1);
            BOUNDS.is("WIDTH then", stopped.notch(0, 2), Math.max(0, width - 1));
            BOUNDS.is("WIDTH of the other", cut.notch(1, 2) * 10 + stopped.notch(1, 2), 11);
        }
    }

    private static void whatIsPaid() {
        BOUNDS.sentence(9, STEP);
        SluiceLogs logs = BOUNDS.of(TEXT);
        BOUNDS.is("COSTS by the WIDTH ahead", logs.step(2, true), 12);
        BOUNDS.is("paid", logs.count(4), 12);
        BOUNDS.is("COSTS", logs.step(2, false), 22);
        BOUNDS.is("paid so far", logs.count(4), 34);
        BOUNDS.is("COSTS of nothing", logs.step(0, true), 0);
        BOUNDS.is("paid so far", logs.count(4), 34);
        BOUNDS.is("things done", logs.count(9), 3);
        SluiceLogs free = BOUNDS.of("log a; notch a river 0; costs = 0 - 5; ");
        BOUNDS.is("no COSTS below 0", free.step(0, true), 0);
        SluiceLogs dear = BOUNDS.of("log a; notch a river 0; costs = 100; ");
        BOUNDS.is("no COSTS above 99", dear.step(0, true), 99);
        BOUNDS.is("the last NOTCH", BOUNDS.of(TEXT).step(3, true), 23);
    }

    private static void stepsThatCanNotBe() {
        BOUNDS.sentence(9, STEP);
        BOUNDS.refused("cut of WIDTH 3", BoundsHandTest::used, x -> x.step(1, true), -1);
        BOUNDS.refused("stop of WIDTH 0", BoundsHandTest::used, x -> x.step(0, false), -1);
        BOUNDS.refused("NOTCH 4 of 4", BoundsHandTest::used, x -> x.step(4, true), -1);
        for (int no : NO_SUCH) {
            BOUNDS.refused("cut of NOTCH " + no, BoundsHandTest::used, x -> x.step(no, true), -1);
            BOUNDS.refused("stop of NOTCH " + no, BoundsHandTest::used, x -> x.step(no, false), -1);
        }
        BOUNDS.refused("of nothing", SluiceLogs::new, x -> x.step(0, true), -1);
    }

    private static void drainsThatAreSet() {
        BOUNDS.sentence(10, DRAIN);
        for (int field = 0; field <= 1; field++) {
            for (int log = 0; log <= 1; log++) {
                for (int quarters = 0; quarters <= 3; quarters++) {
                    SluiceLogs logs = BOUNDS.of(TEXT);
                    boolean isSo = field == 1 && log == 1 && quarters == 2;
                    BOUNDS.is("drain", logs.drain(field, log, quarters), !isSo);
                    BOUNDS.is("LOG", logs.field(field, 8), log);
                    BOUNDS.is("QUARTERS", logs.field(field, 7), quarters);
                    BOUNDS.is("LOG of the other", logs.field(1 - field, 8), field == 0 ? 1 : -2);
                    BOUNDS.is("QUARTERS of the other", logs.field(1 - field, 7), field == 0 ? 2 : 0);
                    BOUNDS.is("things done", logs.count(9), isSo ? 0 : 1);
                }
            }
        }
    }

    private static void drainsThatAreSo() {
        BOUNDS.sentence(10, DRAIN);
        BOUNDS.refused("as told by hand", BoundsHandTest::used, x -> x.drain(0, 1, 3) ? 1 : 0, 0);
        BOUNDS.refused("as told by the text", BoundsHandTest::used, x -> x.drain(1, 1, 2) ? 1 : 0, 0);
        BOUNDS.is("other QUARTERS", used().drain(1, 1, 1), true);
        BOUNDS.is("another LOG", used().drain(1, 0, 2), true);
        BOUNDS.refused("told of no QUARTERS", () -> BOUNDS.of("log a; field f 1; drain f a 0; "), x -> x.drain(0, 0, 0) ? 1 : 0, 0);
        SluiceLogs never = BOUNDS.of("log a; field f 1; ");
        BOUNDS.is("never told", never.drain(0, 0, 0), true);
        BOUNDS.is("LOG", never.field(0, 8), 0);
        BOUNDS.is("it is so then", never.drain(0, 0, 0), false);
        BOUNDS.is("undo", never.undo(), true);
        BOUNDS.is("never told", never.field(0, 8), -2);
        BOUNDS.is("it is not so then", never.drain(0, 0, 0), true);
    }

    private static void noSuchDrains() {
        BOUNDS.sentence(10, DRAIN);
        BOUNDS.refused("FIELD 2 of 2", BoundsHandTest::used, x -> x.drain(2, 0, 1) ? 1 : 0, 0);
        BOUNDS.refused("LOG 2 of 2", BoundsHandTest::used, x -> x.drain(0, 2, 1) ? 1 : 0, 0);
        BOUNDS.refused("4 QUARTERS", BoundsHandTest::used, x -> x.drain(0, 0, 4) ? 1 : 0, 0);
        for (int no : NO_SUCH) {
            BOUNDS.refused("FIELD " + no, BoundsHandTest::used, x -> x.drain(no, 0, 1) ? 1 : 0, 0);
            BOUNDS.refused("LOG " + no, BoundsHandTest::used, x -> x.drain(0, no, 1) ? 1 : 0, 0);
            BOUNDS.refused(no + " QUARTERS", BoundsHandTest::used, x -> x.drain(0, 0, no) ? 1 : 0, 0);
        }
        BOUNDS.refused("no LOGS", () -> BOUNDS.of("field f 1; "), x -> x.drain(0, 0, 0) ? 1 : 0, 0);
        BOUNDS.refused("no LOGS, as never told", () -> BOUNDS.of("field f 1; "), x -> x.drain(0, -2, 0) ? 1 : 0, 0);
        BOUNDS.refused("no FIELDS", () -> BOUNDS.of("log a; "), x -> x.drain(0, 0, 0) ? 1 : 0, 0);
    }

    private static void springs() {
        BOUNDS.sentence(11, SPRING);
        for (int spring = 1; spring <= 9; spring++) {
            SluiceLogs logs = BOUNDS.of(TEXT);
            BOUNDS.is("spring(" + spring + ")", logs.spring(spring), spring != 3);
            BOUNDS.is("SPRING", logs.count(5), spring);
            BOUNDS.is("LOG 0 has", logs.log(0, 0), spring);
            BOUNDS.is("things done", logs.count(9), spring == 3 ? 0 : 1);
        }
    }

    private static void noSuchSprings() {
        BOUNDS.sentence(11, SPRING);
        BOUNDS.refused("it is so", BoundsHandTest::used, x -> x.spring(5) ? 1 : 0, 0);
        BOUNDS.refused("it is so, nothing told", SluiceLogs::new, x -> x.spring(8) ? 1 : 0, 0);
        BOUNDS.refused("0", BoundsHandTest::used, x -> x.spring(0) ? 1 : 0, 0);
        BOUNDS.refused("10", BoundsHandTest::used, x -> x.spring(10) ? 1 : 0, 0);
        for (int no : NO_SUCH) {
            BOUNDS.refused("spring(" + no + ")", BoundsHandTest::used, x -> x.spring(no) ? 1 : 0, 0);
        }
    }

    private static void daysGoBy() {
        BOUNDS.sentence(12, DAYS);
        SluiceLogs logs = BOUNDS.of(TEXT);
        int[] ns = {0, 1, 0, 60, 59, 0};
        int[] days = {0, 1, 1, 61, 120, 120};
        int[] done = {0, 1, 1, 2, 3, 3};
        for (int i = 0; i < ns.length; i++) {
            BOUNDS.is("days(" + ns[i] + ")", logs.days(ns[i]), days[i]);
            BOUNDS.is("day", logs.count(3), days[i]);
            BOUNDS.is("things done", logs.count(9), done[i]);
            BOUNDS.is("GROWN", logs.field(0, 6), 3 * days[i]);
        }
        BOUNDS.refused("days(0)", BoundsHandTest::used, x -> x.days(0), 0);
    }

    private static void noSuchDays() {
        BOUNDS.sentence(12, DAYS);
        BOUNDS.refused("days(61)", BoundsHandTest::used, x -> x.days(61), -1);
        for (int no : NO_SUCH) {
            BOUNDS.refused("days(" + no + ")", BoundsHandTest::used, x -> x.days(no), -1);
        }
    }

    private static void eachThingIsUndone() {
        BOUNDS.sentence(13, UNDO);
        for (int thing = 0; thing <= 4; thing++) {
            SluiceLogs logs = used();
            int which = thing;
            BOUNDS.is("a thing is done", which == 0 ? logs.step(0, true) >= 0 : which == 1 ? logs.step(1, false) >= 0
                    : which == 2 ? logs.drain(1, 0, 1) : which == 3 ? logs.spring(9) : logs.days(60) == 60, true);
            BOUNDS.is("things done", logs.count(9), 4);
            BOUNDS.is("undo", logs.undo(), true);
            BOUNDS.asMade("thing " + thing + " is undone", BoundsHandTest::used, logs);
        }
    }

    private static void thereIsNone() {
        BOUNDS.sentence(13, UNDO);
        BOUNDS.refused("nothing done", () -> BOUNDS.of(TEXT), x -> x.undo() ? 1 : 0, 0);
        SluiceLogs logs = BOUNDS.of(TEXT);
        logs.spring(4);
        BOUNDS.is("undo of the one thing", logs.undo(), true);
        BOUNDS.is("undo once more", logs.undo(), false);
        BOUNDS.asMade("all undone", () -> BOUNDS.of(TEXT), logs);
    }

    private static void theLast40() {
        BOUNDS.sentence(13, UNDO);
        for (int things : new int[] {1, 39, 40, 41, 42, 79, 80, 81, 100}) {
            SluiceLogs logs = BOUNDS.of("log a; notch a river 0; ");
            for (int i = 1; i <= things; i++) {
                logs.days(i == 1 ? 60 : 1);
            }
            int can = Math.min(40, things);
            BOUNDS.is(things + " things: how many can be undone", logs.count(9), can);
            for (int undone = 1; undone <= can; undone++) {
                BOUNDS.is(things + " things: undo " + undone, logs.undo(), true);
                BOUNDS.is("day then", logs.count(3), undone == things ? 0 : 59 + things - undone);
                BOUNDS.is("that can be undone", logs.count(9), can - undone);
            }
            BOUNDS.is(things + " things: undo once more", logs.undo(), false);
            BOUNDS.is("day then", logs.count(3), things <= 40 ? 0 : 59 + things - 40);
            logs.spring(1);
            BOUNDS.is("a thing done behind it", logs.count(9), 1);
            BOUNDS.is("undo of it", logs.undo(), true);
            BOUNDS.is("SPRING", logs.count(5), 8);
        }
    }

    private static void whatIsNoThing() {
        BOUNDS.sentence(13, UNDO);
        SluiceLogs logs = used();
        logs.days(0);
        logs.hold(0);
        logs.tell(0, 0, false);
        logs.forget();
        Due.type(logs, "!");
        logs.back(1);
        logs.step(9, true);
        logs.mend(-1);
        logs.crop(60);
        BOUNDS.is("things done", logs.count(9), 3);
        logs.undo();
        BOUNDS.is("the SPRING is undone", logs.count(5), 3);
    }

    private static void heldInASlot() {
        BOUNDS.sentence(37, HOLD);
        for (int slot = 0; slot <= 2; slot++) {
            SluiceLogs logs = BOUNDS.of(TEXT);
            BOUNDS.is("hold(" + slot + ")", logs.hold(slot), true);
            for (int other = 0; other <= 2; other++) {
                BOUNDS.is("restore(" + other + ")", logs.restore(other), other == slot);
            }
        }
        SluiceLogs again = used();
        BOUNDS.is("held once more", again.hold(1), true);
        BOUNDS.is("SLOTS", again.count(11), 1);
        again.spring(9);
        again.restore(1);
        BOUNDS.is("the later one", again.count(5), 5);
    }

    private static void noSuchSlot() {
        BOUNDS.sentence(37, HOLD);
        BOUNDS.refused("hold(3)", BoundsHandTest::used, x -> x.hold(3) ? 1 : 0, 0);
        for (int no : NO_SUCH) {
            BOUNDS.refused("hold(" + no + ")", BoundsHandTest::used, x -> x.hold(no) ? 1 : 0, 0);
        }
    }

    private static void whatIsHeld() {
        BOUNDS.sentence(37, HOLD);
        SluiceLogs logs = used();
        logs.days(2);
        logs.hold(0);
        logs.step(1, false);
        logs.drain(1, 0, 1);
        logs.drain(0, 0, 0);
        logs.spring(9);
        logs.days(5);
        logs.tell(1, 0, true);
        Due.type(logs, "!");
        logs.restore(0);
        int[] counts = {2, 2, 4, 2, 23, 5, 0, -1, 13, 0, 3, 2, 12};
        for (int what = 0; what < counts.length; what++) {
            if (what != 7) {
                BOUNDS.is("count(" + what + ")", logs.count(what), counts[what]);
            }
        }
        // LOTS of SEED 77 on day 0 are 79 8 25 12, on day 1 84 31 96 41
        BOUNDS.is("WIDTHS", logs.notch(0, 2) * 1000 + logs.notch(1, 2) * 100 + logs.notch(2, 2) * 10 + logs.notch(3, 2), 200);
        BOUNDS.is("QUARTERS", logs.field(0, 7) * 10 + logs.field(1, 7), 32);
        BOUNDS.is("LOGS of the DRAINS", logs.field(0, 8) * 10 + logs.field(1, 8), 11);
        BOUNDS.is("what was TOLD behind it stays", logs.fits(3, 0) >= 0, true);
    }

    private static void stayThere() {
        BOUNDS.sentence(38, RESTORE);
        SluiceLogs logs = used();
        for (int times = 1; times <= 3; times++) {
            logs.days(times);
            logs.step(0, true);
            BOUNDS.is("restore", logs.restore(1), true);
            BOUNDS.is("day", logs.count(3), 0);
            BOUNDS.is("SPRING", logs.count(5), 3);
            BOUNDS.is("LOG 0 has", logs.log(0, 0), 3);
            BOUNDS.is("WIDTH", logs.notch(0, 2), 0);
            BOUNDS.is("f has", logs.field(0, 0), 0);
            BOUNDS.is("SLOTS", logs.count(11), 1);
        }
    }

    private static void nothingCanBeUndoneThen() {
        BOUNDS.sentence(38, RESTORE);
        SluiceLogs logs = used();
        BOUNDS.is("ahead", logs.count(9), 3);
        BOUNDS.is("restore", logs.restore(1), true);
        BOUNDS.is("behind", logs.count(9), 0);
        BOUNDS.is("undo", logs.undo(), false);
        logs.spring(7);
        BOUNDS.is("a thing done then", logs.count(9), 1);
        BOUNDS.is("undo", logs.undo(), true);
        BOUNDS.is("undo", logs.undo(), false);
        BOUNDS.is("SPRING", logs.count(5), 3);
    }

    private static void nothingIsHeld() {
        BOUNDS.sentence(38, RESTORE);
        BOUNDS.refused("restore(0), nothing held", BoundsHandTest::used, x -> x.restore(0) ? 1 : 0, 0);
        BOUNDS.refused("restore(2), nothing held", BoundsHandTest::used, x -> x.restore(2) ? 1 : 0, 0);
        BOUNDS.refused("restore(3)", BoundsHandTest::used, x -> x.restore(3) ? 1 : 0, 0);
        for (int no : NO_SUCH) {
            BOUNDS.refused("restore(" + no + ")", BoundsHandTest::used, x -> x.restore(no) ? 1 : 0, 0);
        }
        BOUNDS.refused("restore(0) of nothing", SluiceLogs::new, x -> x.restore(0) ? 1 : 0, 0);
    }
}
