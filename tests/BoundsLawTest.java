/** Promises 7 and 8: LAWS, what they are counted from, where they wrap, are rounded, divided by 0 and held. */
final class BoundsLawTest {
    private static final Bounds BOUNDS = new Bounds();
    private static final String HOLDS = "the E of the first if that holds (one less than the other), else the last one";
    private static final String WRAPS = "ints of 32 bits that wrap, / rounded towards 0";
    private static final String BY_0 = "a LAW in which something that is looked at is divided by 0 is 0.";
    private static final String OF_A_FIELD = "Of a FIELD: flow; area; wide: the WIDTHS that lead to it, added; grown: how much it has "
            + "GROWN; day; which: its number; store: QUARTERS that are drained; logs; fields: how many there are.";
    private static final String OF_A_NOTCH = "COSTS (of a NOTCH; flow, area, grown, store 0; wide: its WIDTH; which: its number) held to 0 .. 99";
    /** 2 to the power of 31, which is the least int by then. */
    private static final String LEAST = "8192 * 8192 * 32";

    public static void main(String[] args) {
        oneLessThanTheOther();
        theFirstThatHolds();
        wraps();
        roundedTowards0();
        leftToRight();
        longest();
        dividedBy0();
        notLookedAt();
        dividedBy0InEachLaw();
        dividedByWhatIs0Now();
        wideAdded();
        flowAndGrown();
        dayWhichStore();
        howManyThereAre();
        ofANotch();
        heldNeeds();
        heldWorth();
        heldCosts();
        heldSilts();
        BOUNDS.end();
    }

    private static void needs(String law, int due) {
        SluiceLogs logs = BOUNDS.of("log a; field e 9; field f 7; notch a f 2; needs = " + law + ";");
        BOUNDS.is(law, logs.field(1, 4), due);
    }

    private static void oneLessThanTheOther() {
        BOUNDS.sentence(7, HOLDS);
        needs("if 1 < 2 then 3 else 4", 3);
        needs("if 2 < 2 then 3 else 4", 4);
        needs("if 3 < 2 then 3 else 4", 4);
        needs("if 0 < 0 then 3 else 4", 4);
        needs("if 0 - 1 < 0 then 3 else 4", 3);
        needs("if 0 < 0 - 1 then 3 else 4", 4);
        needs("if 9998 < 9999 then 3 else 4", 3);
        needs("if 9999 < 9999 then 3 else 4", 4);
        needs("if " + LEAST + " < " + LEAST + " - 1 then 3 else 4", 3);
        needs("if " + LEAST + " - 1 < " + LEAST + " then 3 else 4", 4);
        needs("if 1 + 1 < 1 * 2 then 3 else 4", 4);
        needs("if 1 + 1 < 1 * 2 + 1 then 3 else 4", 3);
    }

    private static void theFirstThatHolds() {
        BOUNDS.sentence(7, HOLDS);
        needs("5", 5);
        needs("if 1 < 2 then 3 else if 1 < 2 then 4 else 5", 3);
        needs("if 2 < 1 then 3 else if 1 < 2 then 4 else 5", 4);
        needs("if 2 < 1 then 3 else if 2 < 1 then 4 else 5", 5);
        String ifs = "if which < 1 then 10 else if area < 7 then 11 else if wide < ";
        needs(ifs + "3 then 12 else if 0 < 1 then 13 else 14", 12);
        needs(ifs + "2 then 12 else if 0 < 1 then 13 else 14", 13);
        needs(ifs + "2 then 12 else if 1 < 1 then 13 else 14", 14);
    }

    private static void wraps() {
        BOUNDS.sentence(7, WRAPS);
        needs("if " + LEAST + " < 0 then 1 else 2", 1);
        needs("if " + LEAST + " - 1 < 0 then 1 else 2", 2);
        needs("if " + LEAST + " - 1 + 1 < 0 then 1 else 2", 1);
        needs("if 0 - " + LEAST + " < 0 then 1 else 2", 1);
        needs("if 0 - (" + LEAST + " - 1) < 0 then 1 else 2", 1);
        needs("if 0 - (" + LEAST + " - 1) - 1 < 0 then 1 else 2", 1);
        needs("if 0 - (" + LEAST + " - 1) - 2 < 0 then 1 else 2", 2);
        needs("if " + LEAST + " / (0 - 1) < 0 then 1 else 2", 1);
        needs("if " + LEAST + " * (0 - 1) < 0 then 1 else 2", 1);
        needs(LEAST + " * 2", 0);
        needs(LEAST + " * 2 + 7", 7);
        needs("9999 * 9999 * 9999 / 1000 / 1000", 0);
        needs("0 - 9999 * 9999 * 9999 / 1000 / 1000", 1027);
    }

    private static void roundedTowards0() {
        BOUNDS.sentence(7, WRAPS);
        needs("7 / 2", 3);
        needs("6 / 2", 3);
        needs("1 / 2", 0);
        needs("0 / 2", 0);
        needs("10 + (0 - 7) / 2", 7);
        needs("10 + (0 - 6) / 2", 7);
        needs("10 + 7 / (0 - 2)", 7);
        needs("10 + (0 - 1) / 2", 10);
        needs("(0 - 7) / (0 - 2)", 3);
        needs("9999 / 9999", 1);
        needs("9998 / 9999", 0);
    }

    private static void leftToRight() {
        BOUNDS.sentence(7, "E: PART {('+' | '-') PART}. PART: UNIT {('*' | '/') UNIT}.");
        needs("10 - 3 - 2", 5);
        needs("10 - 3 + 2", 9);
        needs("100 / 5 / 2", 10);
        needs("100 / 5 * 2", 40);
        needs("7 / 2 * 2", 6);
        needs("7 * 2 / 2", 7);
        needs("20 - 2 * 3", 14);
        needs("(20 - 2) * 3", 54);
        needs("20 - 12 / 3 - 1", 15);
        needs("20 - (12 / 3 - 1)", 17);
        // six ( within one another, with a - and a * ahead of each
        needs("1-1*(3+1*(5-6*(7-8*(9-1*(2-3*(4-5*6))))))", 3443);
    }

    private static void longest() {
        BOUNDS.sentence(7, "2 ROOM: a 401st TOKEN");
        SluiceLogs logs = BOUNDS.of("field f 1; needs = 2" + "+3".repeat(196) + ";");
        BOUNDS.is("a LAW up to the 400th TOKEN", logs.field(0, 4), 2 + 3 * 196);
        BOUNDS.fault("field f 1; needs = 2" + "+3".repeat(197) + ";", 2, 20 + 2 * 196 + 1);
        SluiceLogs last = BOUNDS.of("field f 1; " + "needs = 9;".repeat(97) + "worth = 7; ");
        BOUNDS.is("the last LAW of many", last.field(0, 5), 7);
        BOUNDS.is("the last but one", last.field(0, 4), 9);
    }

    private static void dividedBy0() {
        BOUNDS.sentence(7, BY_0);
        needs("9 / 1", 9);
        needs("9 / 0", 0);
        needs("0 / 0", 0);
        needs("9 / 0 + 5", 0);
        needs("5 + 9 / 0", 0);
        needs("5 + 0 * (9 / 0)", 0);
        needs("5 + 9 / (1 - 1)", 0);
        needs("5 + 9 / (1 / 2)", 0);
        needs("5 + 0 / 9", 5);
        needs("1 / (1 / 0)", 0);
        needs("5 / (5 + 5 / 0)", 0);
    }

    private static void notLookedAt() {
        BOUNDS.sentence(7, BY_0);
        needs("if 1 < 2 then 5 else 1 / 0", 5);
        needs("if 2 < 1 then 5 else 1 / 0", 0);
        needs("if 2 < 1 then 1 / 0 else 5", 5);
        needs("if 1 < 2 then 1 / 0 else 5", 0);
        needs("if 1 / 0 < 1 then 5 else 5", 0);
        needs("if 1 < 1 / 0 then 5 else 5", 0);
        needs("if 0 < 1 then 5 else if 1 / 0 < 1 then 6 else 7", 5);
        needs("if 1 < 1 then 5 else if 1 / 0 < 1 then 6 else 7", 0);
        needs("if 1 < 1 then 5 else if 0 < 1 then 6 else 1 / 0", 6);
        needs("if 1 < 1 then 5 else if 0 < 1 / 0 then 6 else 7", 0);
    }

    private static void dividedBy0InEachLaw() {
        BOUNDS.sentence(8, BY_0);
        for (int by = 0; by <= 1; by++) {
            int due = by == 0 ? 0 : 11;
            String law = " = 5 + 6 / " + by + "; ";
            SluiceLogs logs = BOUNDS.of("log a; field f 1; notch a f 1; needs" + law + "worth" + law + "costs" + law + "silts" + law);
            BOUNDS.is("NEEDS", logs.field(0, 4), due);
            BOUNDS.is("WORTH", logs.field(0, 5), due);
            BOUNDS.is("COSTS", logs.notch(0, 3), due);
            BOUNDS.is("SILTS", logs.notch(0, 4), due);
        }
    }

    private static void dividedByWhatIs0Now() {
        BOUNDS.sentence(7, BY_0);
        SluiceLogs logs = BOUNDS.of("log a; field f 1; notch a f 1; needs = 60 / day + 3; worth = if day < 2 then 1 else 40 / (day - 3); ");
        int[] needs = {0, 63, 33, 23, 18};
        int[] worth = {1, 1, 0, 0, 40};
        for (int day = 0; day < needs.length; day++) {
            BOUNDS.is("NEEDS on day " + day, logs.field(0, 4), needs[day]);
            BOUNDS.is("WORTH on day " + day, logs.field(0, 5), worth[day]);
            logs.days(1);
        }
    }

    private static void wideAdded() {
        BOUNDS.sentence(7, OF_A_FIELD);
        SluiceLogs logs = BOUNDS.of("log a; log b; field f 1; field g 1; notch a f 3; notch a f 0; notch a g 1; notch b f 2; "
                + "notch b river 3; notch b a 1; needs = wide; ");
        BOUNDS.is("of two LOGS", logs.field(0, 4), 5);
        BOUNDS.is("of one", logs.field(1, 4), 1);
        BOUNDS.is("WIDTHS that lead to it", logs.field(0, 9), 5);
        logs.step(2, false);
        BOUNDS.is("of none", logs.field(1, 4), 0);
    }

    private static void flowAndGrown() {
        BOUNDS.sentence(7, OF_A_FIELD);
        SluiceLogs logs = BOUNDS.of("log a; field f 17; field g 1; notch a f 1; notch a river 2; needs = flow; worth = area + grown; ");
        BOUNDS.is("flow", logs.field(0, 4), 266);
        BOUNDS.is("flow of none", logs.field(1, 4), 0);
        BOUNDS.is("area, nothing GROWN", logs.field(0, 5), 17);
        logs.days(1);
        BOUNDS.is("area and GROWN", logs.field(0, 5), 34);
        BOUNDS.is("of the other", logs.field(1, 5), 2);
        SluiceLogs flood = BOUNDS.of("log a; field f 17; notch a a 1; notch a f 0; needs = flow + 3; ");
        BOUNDS.is("flow in a FLOOD", flood.field(0, 4), 3);
        flood.step(1, true);
        BOUNDS.is("flow behind it", flood.field(0, 4), 803);
    }

    private static void dayWhichStore() {
        BOUNDS.sentence(7, OF_A_FIELD);
        SluiceLogs logs = BOUNDS.of("log a; field e 1; field f 1; drain f a 2; needs = day * 100 + which * 10 + store; ");
        BOUNDS.is("of FIELD 0", logs.field(0, 4), 0);
        BOUNDS.is("of FIELD 1", logs.field(1, 4), 12);
        logs.days(7);
        BOUNDS.is("of FIELD 1 on day 7", logs.field(1, 4), 712);
        logs.drain(1, 0, 0);
        BOUNDS.is("of no QUARTERS", logs.field(1, 4), 710);
        logs.drain(0, 0, 3);
        BOUNDS.is("of 3 QUARTERS", logs.field(0, 4), 703);
    }

    private static void howManyThereAre() {
        BOUNDS.sentence(7, OF_A_FIELD);
        BOUNDS.is("no LOGS", BOUNDS.of("field f 1; needs = logs * 10 + fields; ").field(0, 4), 1);
        BOUNDS.is("4 LOGS, 6 FIELDS", BOUNDS.of("log a; log b; log c; log d; field e 1; field f 1; field g 1; field h 1; field i 1; "
                + "field j 1; needs = logs * 10 + fields; ").field(5, 4), 46);
        BOUNDS.is("no FIELDS", BOUNDS.of("log a; notch a a 1; costs = logs * 10 + fields; ").notch(0, 3), 10);
    }

    private static void ofANotch() {
        BOUNDS.sentence(8, OF_A_NOTCH);
        SluiceLogs logs = BOUNDS.of("log a; field f 50; notch a river 0; notch a f 3; drain f a 2; worth = 9; "
                + "costs = flow + area + grown + store; silts = wide * 10 + which; ");
        logs.days(1);
        BOUNDS.is("FIELD 0 has GROWN", logs.field(0, 6), 9);
        BOUNDS.is("its NEEDS", logs.field(0, 4), 50);
        BOUNDS.is("flow, area, grown, store of a NOTCH", logs.notch(1, 3), 0);
        SluiceLogs own = BOUNDS.of("log a; field f 50; notch a river 0; notch a f 3; costs = wide * 10 + which; silts = wide * 20 + day; ");
        BOUNDS.is("COSTS of NOTCH 0", own.notch(0, 3), 0);
        BOUNDS.is("COSTS of NOTCH 1", own.notch(1, 3), 31);
        BOUNDS.is("SILTS of NOTCH 1", own.notch(1, 4), 60);
        own.step(0, true);
        BOUNDS.is("COSTS by WIDTH 1", own.notch(0, 3), 10);
        SluiceLogs last = BOUNDS.of("log a; log b; log c; log d; " + "notch a a 1; ".repeat(3) + "notch b a 1; ".repeat(3)
                + "notch c a 1; ".repeat(3) + "notch d a 1; ".repeat(3) + "costs = which; silts = which + logs + day; ");
        BOUNDS.is("COSTS of NOTCH 11", last.notch(11, 3), 11);
        BOUNDS.is("SILTS of NOTCH 11", last.notch(11, 4), 15);
    }

    private static void held(String law, boolean notch, int what, int most) {
        String[] es = {"0 - 9999", "0 - 1", "0", "1", (most - 1) + "", most + "", most + " + 1", "9999 * 9999", LEAST, LEAST + " - 1"};
        int[] dues = {0, 0, 0, 1, most - 1, most, most, most, 0, most};
        for (int i = 0; i < es.length; i++) {
            SluiceLogs logs = BOUNDS.of("log a; field f 1; notch a f 1; " + law + " = " + es[i] + "; ");
            BOUNDS.is(law + " = " + es[i], notch ? logs.notch(0, what) : logs.field(0, what), dues[i]);
        }
    }

    private static void heldNeeds() {
        BOUNDS.sentence(7, "NEEDS, held to 0 .. 9,999");
        held("needs", false, 4, 9999);
    }

    private static void heldWorth() {
        BOUNDS.sentence(7, "WORTH, held to 0 .. 99.");
        held("worth", false, 5, 99);
    }

    private static void heldCosts() {
        BOUNDS.sentence(8, OF_A_NOTCH);
        held("costs", true, 3, 99);
    }

    private static void heldSilts() {
        BOUNDS.sentence(8, "SILTS (of a NOTCH likewise), held to 0 .. 100");
        held("silts", true, 4, 100);
    }
}
