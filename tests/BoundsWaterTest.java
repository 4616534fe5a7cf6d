/** Promises 6 to 8, 14 to 17, 25, 26 and 39: what all have, and where it turns to 0, to a FLOOD, to NONE. */
final class BoundsWaterTest {
    private static final Bounds BOUNDS = new Bounds();
    private static final int[] NO_SUCH = {-1, -2, Integer.MIN_VALUE, Integer.MAX_VALUE, 0x40000000, 100};
    private static final String FLOOD = "If something that comes from the SPRING comes to a LOG from which no way leads to any "
            + "FIELD or into the river, it is a FLOOD: all fractions are 0 / 0 then.";
    private static final String FLOW = "FLOW of a FIELD: 100 times what it has, rounded down (FLOOD, no LOGS: 0).";
    private static final String TWO = "log a; log b; field f 9; field g 20; notch a f 1; notch a b 2; notch b g 1; notch b river 2; ";
    private static final String A_FLOOD = "log a; log b; field f 5; field g 1; notch a b 1; notch b a 1; notch b f 0; ";

    public static void main(String[] args) {
        allWidths0();
        whatComesToLog0();
        quarters();
        quartersToAndFro();
        leastTerms();
        nothingComes();
        nothingComesByADrain();
        floodWithoutAWay();
        floodThatIsReached();
        floodOfAll();
        floodOfTheTextAhead();
        flowRoundedDown();
        flow0();
        otherLogs();
        otherFields();
        otherNotches();
        neverTold();
        toWhere();
        wholeSpringIsLost();
        otherRivers();
        roundedDownWhenAdded();
        lessThanNeeds();
        dry();
        spread();
        richest();
        counts();
        otherCounts();
        BOUNDS.end();
    }

    private static void hasLog(SluiceLogs logs, int log, int over, int under) {
        BOUNDS.fraction("log " + log, logs.log(log, 0), logs.log(log, 1), over, under);
    }

    private static void hasField(SluiceLogs logs, int field, int over, int under) {
        BOUNDS.fraction("field " + field, logs.field(field, 0), logs.field(field, 1), over, under);
    }

    private static void lost(SluiceLogs logs, int over, int under) {
        BOUNDS.fraction("RIVER", logs.river(0), logs.river(1), over, under);
    }

    private static void kept(SluiceLogs logs, int over, int under) {
        BOUNDS.fraction("KEPT", logs.river(2), logs.river(3), over, under);
    }

    private static void allWidths0() {
        BOUNDS.sentence(6, "one whose WIDTHS are all 0 loses it into the river.");
        SluiceLogs logs = BOUNDS.of("log a; log b; field f 1; notch a b 1; notch b f 0; notch b b 0; notch b a 0; ");
        hasLog(logs, 1, 8, 1);
        BOUNDS.is("WIDTHS", logs.log(1, 2), 0);
        hasField(logs, 0, 0, 1);
        lost(logs, 8, 1);
        logs.step(1, true);
        BOUNDS.is("WIDTHS", logs.log(1, 2), 1);
        hasField(logs, 0, 8, 1);
        lost(logs, 0, 1);
        lost(BOUNDS.of("log a; field f 1; "), 8, 1);
        lost(BOUNDS.of("log a; field f 1; notch a f 1; "), 0, 1);
        lost(BOUNDS.of("log a; field f 1; notch a f 1; notch a river 0; "), 0, 1);
        lost(BOUNDS.of("log a; field f 1; notch a f 0; notch a river 0; "), 8, 1);
    }

    private static void whatComesToLog0() {
        BOUNDS.sentence(6, "What comes to LOG 0: the SPRING and all that is led and drained to it; "
                + "to another: all that is led and drained to it.");
        // a = 6 + b / 2, b = a + f / 2, f = b / 2
        SluiceLogs toB = BOUNDS.of("log a; log b; field f 1; notch a b 1; notch b a 1; notch b f 1; drain f b 2; spring 6; ");
        hasLog(toB, 0, 18, 1);
        hasLog(toB, 1, 24, 1);
        // a = 6 + b / 2 + f / 2, b = a, f = b / 2
        SluiceLogs toA = BOUNDS.of("log a; log b; field f 1; notch a b 1; notch b a 1; notch b f 1; drain f a 2; spring 6; ");
        hasLog(toA, 0, 24, 1);
        hasLog(toA, 1, 24, 1);
        SluiceLogs alone = BOUNDS.of("log a; log b; field f 1; notch a f 1; notch b f 1; spring 6; ");
        hasLog(alone, 0, 6, 1);
        hasLog(alone, 1, 0, 1);
    }

    private static void quarters() {
        BOUNDS.sentence(7, "so many QUARTERS of that are drained; it keeps the rest.");
        int[] over = {0, 9, 9, 27};
        int[] under = {1, 4, 2, 4};
        for (int quarters = 0; quarters <= 3; quarters++) {
            SluiceLogs logs = BOUNDS.of("log a; log b; field f 1; notch a f 1; spring 9; drain f b " + quarters + "; ");
            hasField(logs, 0, 9, 1);
            hasLog(logs, 1, over[quarters], under[quarters]);
            lost(logs, over[quarters], under[quarters]);
            kept(logs, quarters == 0 ? 9 : over[4 - quarters], under[(4 - quarters) % 4]);
            BOUNDS.is("ROUND", logs.round(), 225 * quarters);
        }
    }

    private static void quartersToAndFro() {
        BOUNDS.sentence(7, "so many QUARTERS of that are drained; it keeps the rest.");
        // a = 8 + q b / 4, b = r a / 4, so that a = 128 / (16 - q r)
        int[][] overOfA = {{8, 8, 8, 8}, {8, 128, 64, 128}, {8, 64, 32, 64}, {8, 128, 64, 128}};
        int[][] underOfA = {{1, 1, 1, 1}, {1, 15, 7, 13}, {1, 7, 3, 5}, {1, 13, 5, 7}};
        int[][] overOfB = {{0, 2, 4, 6}, {0, 32, 32, 96}, {0, 16, 16, 48}, {0, 32, 32, 96}};
        for (int q = 0; q <= 3; q++) {
            for (int r = 0; r <= 3; r++) {
                SluiceLogs logs = BOUNDS.of("log a; log b; field f 1; field g 1; notch a f 1; notch b g 1; drain f b " + r
                        + "; drain g a " + q + "; ");
                hasLog(logs, 0, overOfA[q][r], underOfA[q][r]);
                hasField(logs, 1, overOfB[q][r], r == 0 ? 1 : underOfA[q][r]);
            }
        }
    }

    private static void leastTerms() {
        BOUNDS.sentence(6, "is a fraction, in its least terms (0: 0 / 1)");
        String text = "log a; log b; field f 1; field g 1; notch a f 3; notch a river 3; notch a b 3; ";
        int[] springs = {1, 2, 3, 6, 8, 9};
        int[] over = {1, 2, 1, 2, 8, 3};
        int[] under = {3, 3, 1, 1, 3, 1};
        for (int i = 0; i < springs.length; i++) {
            SluiceLogs logs = BOUNDS.of(text + "spring " + springs[i] + "; ");
            hasLog(logs, 0, springs[i], 1);
            hasLog(logs, 1, over[i], under[i]);
            hasField(logs, 0, over[i], under[i]);
            kept(logs, over[i], under[i]);
            lost(logs, 2 * over[i], under[i]);
            hasField(logs, 1, 0, 1);
        }
        SluiceLogs none = BOUNDS.of("log a; log b; field f 1; notch b f 1; ");
        hasLog(none, 1, 0, 1);
        hasField(none, 0, 0, 1);
        kept(none, 0, 1);
        lost(BOUNDS.of("log a; field f 1; notch a f 1; "), 0, 1);
    }

    private static void nothingComes() {
        BOUNDS.sentence(6, "a LOG, a FIELD to which nothing comes from the SPRING, by whatever way, has 0.");
        SluiceLogs logs = BOUNDS.of("log a; log c; log d; field f 1; field g 1; notch a f 1; notch a c 0; notch c d 2; "
                + "notch c g 1; notch d c 1; ");
        hasLog(logs, 1, 0, 1);
        hasLog(logs, 2, 0, 1);
        hasField(logs, 1, 0, 1);
        BOUNDS.is("a FLOOD", logs.count(6), 0);
        logs.step(1, true);
        // 4 come to c: c = 4 + d, d = 2 c / 3
        hasLog(logs, 1, 12, 1);
        hasLog(logs, 2, 8, 1);
        hasField(logs, 1, 4, 1);
        SluiceLogs ring = BOUNDS.of("log a; log c; log d; notch c d 1; notch d c 1; ");
        hasLog(ring, 1, 0, 1);
        hasLog(ring, 2, 0, 1);
        BOUNDS.is("a FLOOD", ring.count(6), 0);
        SluiceLogs self = BOUNDS.of("log a; log b; notch b b 3; ");
        hasLog(self, 1, 0, 1);
        BOUNDS.is("a FLOOD", self.count(6), 0);
        for (int quarters = 0; quarters <= 3; quarters++) {
            SluiceLogs drained = BOUNDS.of("log a; log b; field f 1; notch a river 1; notch b f 1; drain f b " + quarters + "; ");
            hasLog(drained, 0, 8, 1);
            hasLog(drained, 1, 0, 1);
            hasField(drained, 0, 0, 1);
            lost(drained, 8, 1);
        }
    }

    private static void nothingComesByADrain() {
        BOUNDS.sentence(6, "a LOG, a FIELD to which nothing comes from the SPRING, by whatever way, has 0.");
        SluiceLogs logs = BOUNDS.of("log a; log c; log d; field f 1; field g 1; notch a f 1; notch c d 2; notch c g 1; "
                + "notch d c 1; drain f c 0; drain g c 3; ");
        hasLog(logs, 1, 0, 1);
        hasField(logs, 1, 0, 1);
        logs.drain(1, 1, 0);
        logs.drain(0, 1, 1);
        hasLog(logs, 1, 6, 1);
        hasLog(logs, 2, 4, 1);
        hasField(logs, 1, 2, 1);
    }

    private static void flood(String text, boolean is) {
        SluiceLogs logs = BOUNDS.of(text);
        BOUNDS.is("a FLOOD by " + text, logs.count(6), is ? 1 : 0);
        BOUNDS.is("0 below LOG 0 by " + text, logs.log(0, 1) == 0, is);
    }

    private static void floodWithoutAWay() {
        BOUNDS.sentence(39, FLOOD);
        String two = "log a; log b; log c; field f 5; ";
        flood(two + "notch a a 1; ", true);
        flood(two + "notch a a 0; ", false);
        flood(two + "notch a a 3; notch a f 0; ", true);
        flood(two + "notch a a 3; notch a f 1; ", false);
        flood(two + "notch a a 3; notch a river 0; ", true);
        flood(two + "notch a a 3; notch a river 1; ", false);
        flood(two + "notch a b 1; notch b a 1; notch b f 0; ", true);
        flood(two + "notch a b 1; notch b a 1; notch b f 1; ", false);
        flood(two + "notch a b 1; notch b a 0; notch b f 0; ", false);
        flood(two + "notch a b 1; notch b c 1; notch c a 1; ", true);
        flood(two + "notch a b 1; notch b c 1; notch c a 1; notch c river 1; ", false);
        flood(two + "notch a b 1; notch b c 1; notch c c 1; notch b f 1; notch a f 1; ", true);
        flood(two + "notch a b 1; notch b c 1; ", false);
        flood(two + "notch a a 1; notch a f 1; drain f a 3; ", false);
    }

    private static void floodThatIsReached() {
        BOUNDS.sentence(39, FLOOD);
        String two = "log a; log b; field f 5; field g 5; notch b b 1; notch a f 1; ";
        flood(two, false);
        flood(two + "notch a b 0; ", false);
        flood(two + "notch a b 1; ", true);
        flood(two + "drain f b 0; ", false);
        flood(two + "drain f b 1; ", true);
        flood(two + "drain f a 3; ", false);
        flood(two + "drain g b 3; ", false);
        flood(two + "notch a g 0; drain g b 3; ", false);
        flood(two + "notch a g 1; drain g b 3; ", true);
        flood(two + "notch b f 1; drain f b 3; ", false);
        flood("log a; log b; log c; notch a b 0; notch b c 1; notch c b 1; ", false);
        flood("log a; log b; log c; notch a b 3; notch b c 1; notch c b 1; ", true);
        BOUNDS.is("a FLOOD without LOGS", BOUNDS.of("field f 1; ").count(6), 0);
    }

    private static void floodOfAll() {
        BOUNDS.sentence(39, FLOOD);
        SluiceLogs logs = BOUNDS.of("log a; log b; log c; field f 1; field g 1; notch a f 1; notch a b 0; notch b b 1; notch c g 1; ");
        hasField(logs, 0, 8, 1);
        hasLog(logs, 0, 8, 1);
        hasLog(logs, 2, 0, 1);
        logs.step(1, true);
        for (int log = 0; log < 3; log++) {
            hasLog(logs, log, 0, 0);
        }
        for (int field = 0; field < 2; field++) {
            hasField(logs, field, 0, 0);
        }
        lost(logs, 0, 0);
        kept(logs, 0, 0);
        BOUNDS.is("a FLOOD", logs.count(6), 1);
        logs.step(1, false);
        BOUNDS.is("a FLOOD", logs.count(6), 0);
        hasField(logs, 0, 8, 1);
    }

    private static void floodOfTheTextAhead() {
        BOUNDS.sentence(39, FLOOD);
        for (String text : new String[] {"", "field f 1; ", "log a; ", "log a; field f 1; notch a f 1; "}) {
            SluiceLogs logs = BOUNDS.of(A_FLOOD);
            logs.mend(-1);
            BOUNDS.is("a FLOOD", logs.count(6), 1);
            Due.type(logs, text);
            logs.read();
            BOUNDS.is("a FLOOD behind " + text, logs.count(6), 0);
            BOUNDS.is("RICHEST", logs.richest(), text.contains("field") ? 0 : -2);
            BOUNDS.is("mend", logs.mend(-1), text.equals("field f 1; ") ? -2 : 0);
            BOUNDS.asMade("behind the text of a FLOOD", () -> BOUNDS.of(text), logs);
        }
    }

    private static void flowRoundedDown() {
        BOUNDS.sentence(7, FLOW);
        String thirds = "log a; field f 1; notch a f 1; notch a river 2; spring ";
        int[] dues = {33, 66, 100, 133, 166, 200, 233, 266, 300};
        for (int spring = 1; spring <= 9; spring++) {
            BOUNDS.is("FLOW of " + spring + " / 3", BOUNDS.of(thirds + spring + "; ").field(0, 2), dues[spring - 1]);
        }
        // a seventh, and a seventh of that
        String sevenths = "log a; log b; field f 1; notch a b 1; notch a river 3; notch a river 3; notch b f 1; notch b river 3; "
                + "notch b river 3; spring ";
        int[] of49 = {2, 4, 6, 8, 10, 12, 14, 16, 18};
        for (int spring = 1; spring <= 9; spring++) {
            BOUNDS.is("FLOW of " + spring + " / 49", BOUNDS.of(sevenths + spring + "; ").field(0, 2), of49[spring - 1]);
        }
    }

    private static void flow0() {
        BOUNDS.sentence(7, FLOW);
        SluiceLogs flood = BOUNDS.of(A_FLOOD);
        BOUNDS.is("FLOW in a FLOOD", flood.field(0, 2), 0);
        BOUNDS.is("FLOWS in a FLOOD", flood.count(7), 0);
        flood.step(2, true);
        BOUNDS.is("FLOW behind it", flood.field(0, 2), 800);
        SluiceLogs none = BOUNDS.of("field f 1; field g 1; ");
        BOUNDS.is("FLOW without LOGS", none.field(1, 2), 0);
        hasField(none, 1, 0, 1);
    }

    private static void otherLogs() {
        BOUNDS.sentence(6, "NONE for others.");
        SluiceLogs logs = BOUNDS.of(TWO + "spring 9; ");
        int[] last = {6, 1, 3, 12};
        for (int what = 0; what <= 3; what++) {
            BOUNDS.is("the last LOG", logs.log(1, what), last[what]);
            BOUNDS.is("behind the last LOG", logs.log(2, what), -1);
        }
        BOUNDS.is("WIDTHS of LOG 0", logs.log(0, 2), 3);
        BOUNDS.is("NOTCHES of LOG 0", logs.log(0, 3), 3);
        BOUNDS.is("what 4", logs.log(0, 4), -1);
        for (int no : NO_SUCH) {
            BOUNDS.is("LOG " + no, logs.log(no, 0), -1);
            BOUNDS.is("what " + no, logs.log(0, no), -1);
        }
        BOUNDS.is("LOG 3 of 4", BOUNDS.of("log a; log b; log c; log d; ").log(3, 1), 1);
        BOUNDS.is("LOG 4 of 4", BOUNDS.of("log a; log b; log c; log d; ").log(4, 1), -1);
    }

    private static void otherFields() {
        BOUNDS.sentence(7, "NONE for others.");
        SluiceLogs logs = BOUNDS.of(TWO + "spring 9; ");
        int[] last = {2, 1, 200, 20, 20, 99, 0, 0, -2, 1};
        for (int what = 0; what <= 9; what++) {
            BOUNDS.is("the last FIELD", logs.field(1, what), last[what]);
            BOUNDS.is("behind the last FIELD", logs.field(2, what), -1);
        }
        BOUNDS.is("what 10", logs.field(0, 10), -1);
        for (int no : NO_SUCH) {
            BOUNDS.is("FIELD " + no, logs.field(no, 8), -1);
            BOUNDS.is("what " + no, logs.field(0, no), -1);
        }
        SluiceLogs six = BOUNDS.of("field a 1; field b 2; field c 3; field d 4; field e 5; field f 6; ");
        BOUNDS.is("FIELD 5 of 6", six.field(5, 3), 6);
        BOUNDS.is("FIELD 6 of 6", six.field(6, 3), -1);
    }

    private static void otherNotches() {
        BOUNDS.sentence(8, "NONE for others.");
        SluiceLogs logs = BOUNDS.of(TWO);
        int[] last = {1, 20, 2, 1, 0};
        for (int what = 0; what <= 4; what++) {
            BOUNDS.is("the last NOTCH", logs.notch(3, what), last[what]);
            BOUNDS.is("behind the last NOTCH", logs.notch(4, what), -1);
        }
        BOUNDS.is("what 5", logs.notch(0, 5), -1);
        for (int no : NO_SUCH) {
            BOUNDS.is("NOTCH " + no, logs.notch(no, 2), -1);
            BOUNDS.is("what " + no, logs.notch(0, no), -1);
        }
    }

    private static void neverTold() {
        BOUNDS.sentence(7, "8 to which LOG (-2: never told)");
        SluiceLogs logs = BOUNDS.of(TWO + "drain g a 0; ");
        BOUNDS.is("never told", logs.field(0, 8), -2);
        BOUNDS.is("told, of no QUARTERS", logs.field(1, 8), 0);
        BOUNDS.is("no such FIELD", logs.field(2, 8), -1);
        logs.drain(0, 1, 0);
        BOUNDS.is("by hand", logs.field(0, 8), 1);
        logs.undo();
        BOUNDS.is("undone", logs.field(0, 8), -2);
        BOUNDS.is("without LOGS", BOUNDS.of("field f 1; ").field(0, 8), -2);
    }

    private static void toWhere() {
        BOUNDS.sentence(8, "1 to where (a LOG's number, 10 and a FIELD's, 20: the river)");
        SluiceLogs logs = BOUNDS.of("log a; log b; log c; log d; field e 1; field f 1; field g 1; field h 1; field i 1; field j 1; "
                + "notch a a 1; notch a d 1; notch b e 1; notch b j 1; notch c river 1; ");
        int[] to = {0, 3, 10, 15, 20};
        for (int notch = 0; notch < to.length; notch++) {
            BOUNDS.is("to where", logs.notch(notch, 1), to[notch]);
        }
    }

    private static void wholeSpringIsLost() {
        BOUNDS.sentence(14, "(without LOGS the whole SPRING is lost)");
        for (int spring = 1; spring <= 9; spring++) {
            SluiceLogs none = BOUNDS.of("field f 1; spring " + spring + "; ");
            lost(none, spring, 1);
            kept(none, 0, 1);
        }
        SluiceLogs one = BOUNDS.of("log a; field f 1; notch a f 1; spring 3; ");
        lost(one, 0, 1);
        kept(one, 3, 1);
    }

    private static void otherRivers() {
        BOUNDS.sentence(14, "What 0, 1 RIVER, 2, 3 KEPT, over and under (without LOGS the whole SPRING is lost). NONE for others.");
        SluiceLogs logs = BOUNDS.of(TWO + "spring 9; drain f a 1; ");
        lost(logs, 48, 11);
        kept(logs, 51, 11);
        BOUNDS.is("what 4", logs.river(4), -1);
        for (int no : NO_SUCH) {
            BOUNDS.is("what " + no, logs.river(no), -1);
        }
        BOUNDS.is("what 4 without LOGS", new SluiceLogs().river(4), -1);
        BOUNDS.is("what 4 in a FLOOD", BOUNDS.of(A_FLOOD).river(4), -1);
    }

    private static void roundedDownWhenAdded() {
        BOUNDS.sentence(15, "ROUND: 100 times what all FIELDS let be drained, added, rounded down (FLOOD: 0).");
        // an eighth each: 12 and a half, twice
        String halves = "log a; log b; field f 1; field g 1; notch a f 1; notch a g 1; drain f b 1; drain g b ";
        BOUNDS.is("two eighths", BOUNDS.of(halves + "1; spring 1; ").round(), 25);
        BOUNDS.is("one eighth", BOUNDS.of(halves + "0; spring 1; ").round(), 12);
        BOUNDS.is("no FIELDS", BOUNDS.of("log a; ").round(), 0);
        BOUNDS.is("no LOGS", BOUNDS.of("field f 1; ").round(), 0);
        SluiceLogs flood = BOUNDS.of("log a; log b; field f 1; notch a f 1; notch b b 1; drain f b 0; ");
        BOUNDS.is("of 0 QUARTERS", flood.round(), 0);
        flood.drain(0, 1, 1);
        BOUNDS.is("in a FLOOD", flood.round(), 0);
        flood.step(1, false);
        BOUNDS.is("behind it", flood.round(), 200);
    }

    private static void lessThanNeeds() {
        BOUNDS.sentence(16, "LACKING: FIELDS whose FLOW is less than NEEDS");
        String text = "log a; field f 1; notch a f 1; notch a river 2; spring 8; needs = ";
        BOUNDS.is("FLOW 266, NEEDS 265", BOUNDS.of(text + "265; ").lacking(), 0);
        BOUNDS.is("FLOW 266, NEEDS 266", BOUNDS.of(text + "266; ").lacking(), 0);
        BOUNDS.is("FLOW 266, NEEDS 267", BOUNDS.of(text + "267; ").lacking(), 1);
        BOUNDS.is("NEEDS its FLOW", BOUNDS.of(text + "flow; ").lacking(), 0);
        BOUNDS.is("NEEDS more than its FLOW", BOUNDS.of(text + "flow + 1; ").lacking(), 1);
        BOUNDS.is("FLOW 0, NEEDS 0", BOUNDS.of("field f 1; needs = 0; ").lacking(), 0);
        BOUNDS.is("FLOW 0, NEEDS 1", BOUNDS.of("field f 1; ").lacking(), 1);
        String six = "field a 1; field b 1; field c 1; field d 1; field e 1; field f 1; ";
        BOUNDS.is("all six", BOUNDS.of(six).lacking(), 63);
        BOUNDS.is("the last of six", BOUNDS.of(six + "needs = which / 5; ").lacking(), 32);
        BOUNDS.is("no FIELDS", BOUNDS.of("log a; ").lacking(), 0);
        BOUNDS.is("in a FLOOD", BOUNDS.of(A_FLOOD).lacking(), 3);
        BOUNDS.is("in a FLOOD, NEEDS 0 and 1", BOUNDS.of(A_FLOOD + "needs = which; ").lacking(), 2);
    }

    private static void dry() {
        BOUNDS.sentence(17, "DRY: FIELDS that have 0.");
        // f has 8 / 343, of which FLOW is 2; by a SPRING of 1 it is 0
        String drops = "log a; log b; log c; field f 1; field g 1; notch a b 1; notch a river 3; notch a river 3; notch b c 1; "
                + "notch b river 3; notch b river 3; notch c f 1; notch c river 3; notch c river 3; ";
        SluiceLogs drop = BOUNDS.of(drops + "spring 1; ");
        hasField(drop, 0, 1, 343);
        BOUNDS.is("FLOW", drop.field(0, 2), 0);
        BOUNDS.is("DRY", drop.dry(), 2);
        drop.step(6, false);
        BOUNDS.is("DRY without its NOTCH", drop.dry(), 3);
        BOUNDS.is("no LOGS", BOUNDS.of("field a 1; field b 1; field c 1; field d 1; field e 1; field f 1; ").dry(), 63);
        BOUNDS.is("no FIELDS", BOUNDS.of("log a; ").dry(), 0);
        BOUNDS.sentence(17, "DRY (bits; FLOOD: 0).");
        SluiceLogs flood = BOUNDS.of(A_FLOOD);
        BOUNDS.is("in a FLOOD", flood.dry(), 0);
        flood.step(2, true);
        BOUNDS.is("behind it", flood.dry(), 2);
    }

    private static void spread() {
        BOUNDS.sentence(25, "SPREAD: the greatest FLOW less the least.");
        BOUNDS.is("300 and 200", BOUNDS.of(TWO + "spring 9; ").spread(), 100);
        BOUNDS.is("266, 0 and 0", BOUNDS.of("log a; field f 1; field g 1; field h 1; notch a f 1; notch a river 2; "
                + "notch a g 0; ").spread(), 266);
        BOUNDS.is("one FIELD", BOUNDS.of("log a; field f 1; notch a f 1; ").spread(), 0);
        BOUNDS.is("the least in the middle", BOUNDS.of("log a; field f 1; field g 1; field h 1; notch a f 2; notch a g 1; "
                + "notch a h 3; spring 6; ").spread(), 200);
        BOUNDS.is("alike", BOUNDS.of("log a; field f 1; field g 1; notch a f 1; notch a g 1; ").spread(), 0);
        BOUNDS.is("in a FLOOD", BOUNDS.of(A_FLOOD).spread(), 0);
        BOUNDS.sentence(25, "SPREAD (no FIELDS: 0).");
        BOUNDS.is("no FIELDS", BOUNDS.of("log a; ").spread(), 0);
        BOUNDS.is("nothing", new SluiceLogs().spread(), 0);
        BOUNDS.is("a FIELD more", BOUNDS.of("log a; field f 1; field g 1; notch a g 1; ").spread(), 800);
    }

    private static void richest() {
        BOUNDS.sentence(26, "RICHEST: the FIELD that has most, of alike ones the first.");
        String three = "log a; field f 1; field g 1; field h 1; ";
        BOUNDS.is("alike", BOUNDS.of(three + "notch a f 1; notch a g 1; notch a h 1; ").richest(), 0);
        BOUNDS.is("the last two alike", BOUNDS.of(three + "notch a f 1; notch a g 2; notch a h 2; ").richest(), 1);
        BOUNDS.is("the last", BOUNDS.of(three + "notch a f 1; notch a g 1; notch a h 2; ").richest(), 2);
        BOUNDS.is("none has any", BOUNDS.of("field f 1; field g 1; ").richest(), 0);
        // f has 1 / 343, g 3 / 343: FLOW 0 both
        SluiceLogs drops = BOUNDS.of("log a; log b; log c; field f 1; field g 1; notch a b 1; notch a river 3; notch a river 3; "
                + "notch b c 1; notch b river 3; notch b river 3; notch c f 1; notch c g 3; notch c river 3; spring 1; ");
        BOUNDS.is("FLOW of f", drops.field(0, 2), 0);
        BOUNDS.is("FLOW of g", drops.field(1, 2), 0);
        BOUNDS.is("more by less than a hundredth", drops.richest(), 1);
        BOUNDS.sentence(26, "RICHEST; -2: no FIELDS, FLOOD.");
        BOUNDS.is("no FIELDS", BOUNDS.of("log a; ").richest(), -2);
        BOUNDS.is("nothing", new SluiceLogs().richest(), -2);
        SluiceLogs flood = BOUNDS.of(A_FLOOD);
        BOUNDS.is("in a FLOOD", flood.richest(), -2);
        flood.step(2, true);
        BOUNDS.is("behind it", flood.richest(), 0);
    }

    private static void counts() {
        BOUNDS.sentence(39, "6: 1 a FLOOD, else 0, 7 FLOWS of all, added");
        SluiceLogs thirds = BOUNDS.of("log a; field f 1; field g 1; field h 1; notch a f 1; notch a g 1; notch a h 1; ");
        BOUNDS.is("FLOWS", thirds.count(7), 3 * 266);
        BOUNDS.is("a FLOOD", thirds.count(6), 0);
        SluiceLogs flood = BOUNDS.of(A_FLOOD);
        BOUNDS.is("FLOWS", flood.count(7), 0);
        BOUNDS.is("a FLOOD", flood.count(6), 1);
        BOUNDS.sentence(39, "11 SLOTS that hold something");
        SluiceLogs slots = new SluiceLogs();
        int[] held = {2, 2, 0, 3, 1, -1};
        int[] many = {1, 1, 2, 2, 3, 3};
        BOUNDS.is("none", slots.count(11), 0);
        for (int i = 0; i < held.length; i++) {
            slots.hold(held[i]);
            BOUNDS.is("held " + held[i], slots.count(11), many[i]);
        }
        BOUNDS.sentence(39, "13 STEPS that can be done (bits).");
        BOUNDS.is("by WIDTHS 0 1 2 3", BOUNDS.of("log a; log b; notch a a 0; notch a b 1; notch a a 2; notch b a 3; ").count(13),
                2 | 4 | 8 | 16 | 32 | 64);
        BOUNDS.is("no NOTCHES", BOUNDS.of("log a; ").count(13), 0);
        BOUNDS.is("all 24", BOUNDS.of("log a; log b; log c; log d; " + "notch a a 1; ".repeat(3) + "notch b a 2; ".repeat(3)
                + "notch c a 1; ".repeat(3) + "notch d a 2; ".repeat(3)).count(13), (1 << 24) - 1);
    }

    private static void otherCounts() {
        BOUNDS.sentence(39, "NONE for others.");
        SluiceLogs logs = BOUNDS.of(TWO);
        int[] dues = {2, 2, 4, 0, 0, 8, 0, 266 + 177, 0, 0, 0, 0, 0, 255};
        for (int what = 0; what <= 13; what++) {
            BOUNDS.is("count(" + what + ")", logs.count(what), dues[what]);
        }
        BOUNDS.is("count(14)", logs.count(14), -1);
        for (int no : NO_SUCH) {
            BOUNDS.is("count(" + no + ")", logs.count(no), -1);
        }
    }
}
