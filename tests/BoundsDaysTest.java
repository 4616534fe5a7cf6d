/** Promises 12, 27 and 30 to 32: LOTS, silt, what GROWS, and DAYS that would go by. */
final class BoundsDaysTest {
    private static final Bounds BOUNDS = new Bounds();
    private static final int[] NO_SUCH = {-1, -2, Integer.MIN_VALUE, Integer.MAX_VALUE, 0x40000000, 1000};
    private static final String LOT = "LOT n of a SEED and a which: h is the SEED; for each of 217, which: h becomes (h and it, each bit of "
            + "which is in just one) times 1103515245 and 12345 more, then h and h moved 15 bits down (zeros come in), likewise; "
            + "the rest of h, moved 1 bit down likewise, by n (32 bits that wrap).";
    private static final String SILT = "each NOTCH with LOT 100 of the SEED and 16 * the day and its number less than SILTS is STOPPED, if it can be.";
    private static final String BEGAN = "A DAY, all by how it was as it began";
    private static final String GROWN = "each FIELD has GROWN WORTH more (9,999 at most)";
    private static final String CROP = "CROP of n (0 .. 60) DAYS: by how much more all would have GROWN behind them "
            + "(9,999 at most each, as ever), added.";
    private static final String YEAR = "YEAR by s SEEDS (1 .. 20) from the text's SEED on: in how many of them a FIELD is LACKING in n DAYS (0 .. 60).";
    private static final String TEXT = "log a; log b; field f 60; field g 2; notch a f 3; notch a river 3; notch a g 3; drain f b 1; "
            + "seed 77; silts = 30; worth = wide; ";
    /** LOTS of 100, counted apart from this program: a SEED, a day, and those of the first three NOTCHES or of all twelve. */
    private static final int[][] LOTS = {
        {0, 0, 35, 4, 32, 52, 56, 19, 76, 1, 69, 2, 51, 10},
        {0, 1, 36, 63, 63, 57, 93, 30, 71, 58, 74, 98, 26, 3},
        {1, 0, 3, 70, 97, 14, 66, 79, 42, 14, 80, 20, 15, 40},
        {77, 3, 34, 33, 22, 30, 57, 50, 27, 46, 4, 4, 17, 0},
        {217, 1, 40, 0, 55, 40, 73, 32, 43, 21, 11, 74, 29, 2},
        {9999, 0, 38, 13, 14, 79, 63, 21, 57, 36, 96, 39, 23, 77},
        {9999, 2, 40, 35, 24, 65, 5, 58, 79, 2, 67, 29, 65, 56},
        {0, 59, 58, 33, 49}, {0, 60, 47, 36, 73}, {0, 61, 52, 19, 88}, {0, 127, 28, 72, 20}, {0, 128, 88, 75, 84},
        {0, 2047, 65, 66, 11}, {0, 2048, 82, 61, 90}, {9999, 600, 27, 97, 77}, {9999, 6000, 54, 17, 22},
    };

    public static void main(String[] args) {
        lots();
        siltsThatNeverAndAlwaysStop();
        stoppedIfItCanBe();
        siltAsTheDayBegan();
        worthAsTheDayBegan();
        grownToTheMost();
        theNextDay();
        cropToTheMost();
        cropWithoutSilt();
        noSuchCrop();
        grownIn();
        wideIn();
        year();
        yearFromTheSeedOn();
        noSuchYear();
        BOUNDS.end();
    }

    private static String notches(int many, int width) {
        StringBuilder text = new StringBuilder("log a; log b; log c; log d; ");
        for (int i = 0; i < many; i++) {
            text.append("notch ").append((char) ('a' + i / 3)).append(" river ").append(width).append("; ");
        }
        return text.toString();
    }

    private static void goTo(SluiceLogs logs, int day) {
        while (logs.count(3) < day) {
            logs.days(Math.min(60, day - logs.count(3)));
        }
    }

    private static void lots() {
        BOUNDS.sentence(12, LOT);
        for (int[] row : LOTS) {
            int many = row.length - 2;
            for (int notch = 0; notch < many; notch++) {
                for (int more = 0; more <= 1; more++) {
                    int silts = row[2 + notch] + more;
                    SluiceLogs logs = BOUNDS.of(notches(many, 3) + "seed " + row[0] + "; silts = if day < " + row[1]
                            + " then 0 else " + silts + "; ");
                    goTo(logs, row[1]);
                    BOUNDS.is("SILTS", logs.notch(notch, 4), silts);
                    BOUNDS.is("WIDTH ahead", logs.notch(notch, 2), 3);
                    logs.days(1);
                    for (int other = 0; other < many; other++) {
                        BOUNDS.is("SEED " + row[0] + " day " + row[1] + " NOTCH " + other + " SILTS " + silts, logs.notch(other, 2),
                                row[2 + other] < silts ? 2 : 3);
                    }
                }
            }
        }
    }

    private static void siltsThatNeverAndAlwaysStop() {
        BOUNDS.sentence(12, SILT);
        // the LOT of SEED 77 on day 3 of NOTCH 11 is 0; that of SEED 1 on day 2 of NOTCH 2 is 99
        for (int silts : new int[] {0, 1, 99, 100}) {
            SluiceLogs least = BOUNDS.of(notches(12, 3) + "seed 77; silts = if day < 3 then 0 else " + silts + "; ");
            least.days(4);
            BOUNDS.is("LOT 0, SILTS " + silts, least.notch(11, 2), silts > 0 ? 2 : 3);
            SluiceLogs most = BOUNDS.of(notches(12, 3) + "seed 1; silts = if day < 2 then 0 else " + silts + "; ");
            most.days(3);
            BOUNDS.is("LOT 99, SILTS " + silts, most.notch(2, 2), silts > 99 ? 2 : 3);
        }
        SluiceLogs never = BOUNDS.of(notches(12, 3) + "silts = 0; ");
        never.days(60);
        SluiceLogs always = BOUNDS.of(notches(12, 3) + "silts = 100; ");
        always.days(2);
        for (int notch = 0; notch < 12; notch++) {
            BOUNDS.is("never", never.notch(notch, 2), 3);
            BOUNDS.is("always", always.notch(notch, 2), 1);
        }
    }

    private static void stoppedIfItCanBe() {
        BOUNDS.sentence(12, SILT);
        for (int width = 0; width <= 3; width++) {
            SluiceLogs logs = BOUNDS.of("log a; field f 1; notch a f " + width + "; silts = 100; ");
            for (int day = 1; day <= 5; day++) {
                BOUNDS.is("days(1)", logs.days(1), day);
                BOUNDS.is("WIDTH " + width + " behind day " + day, logs.notch(0, 2), Math.max(0, width - day));
            }
            BOUNDS.is("nothing is paid", logs.count(4), 0);
        }
    }

    private static void siltAsTheDayBegan() {
        BOUNDS.sentence(12, BEGAN);
        SluiceLogs byWide = BOUNDS.of("log a; notch a river 3; notch a river 2; notch a river 1; silts = if wide < 2 then 0 else 100; ");
        int[] dues = {321, 211, 111, 111};
        for (int due : dues) {
            BOUNDS.is("WIDTHS", byWide.notch(0, 2) * 100 + byWide.notch(1, 2) * 10 + byWide.notch(2, 2), due);
            byWide.days(1);
        }
        SluiceLogs byDay = BOUNDS.of("log a; notch a river 3; silts = if day < 1 then 0 else if day < 2 then 100 else 0; ");
        int[] widths = {3, 3, 2, 2};
        for (int day = 0; day < widths.length; day++) {
            BOUNDS.is("WIDTH on day " + day, byDay.notch(0, 2), widths[day]);
            byDay.days(1);
        }
    }

    private static void worthAsTheDayBegan() {
        BOUNDS.sentence(12, BEGAN);
        String text = "log a; field f 5; notch a f 2; notch a river 2; silts = 100; spring 1; worth = ";
        int[] grownByFlow = {0, 50, 99, 99, 99};
        int[] grownByWide = {0, 2, 3, 3, 3};
        int[] grownByDay = {0, 10, 21, 33, 46};
        int[] grownByGrown = {0, 1, 3, 7, 15};
        SluiceLogs flow = BOUNDS.of(text + "flow - day; ");
        SluiceLogs wide = BOUNDS.of(text + "wide; ");
        SluiceLogs day = BOUNDS.of(text + "day + 10; ");
        SluiceLogs grown = BOUNDS.of(text + "grown + 1; ");
        for (int days = 0; days < grownByFlow.length; days++) {
            BOUNDS.is("by flow", flow.field(0, 6), grownByFlow[days]);
            BOUNDS.is("by wide", wide.field(0, 6), grownByWide[days]);
            BOUNDS.is("by day", day.field(0, 6), grownByDay[days]);
            BOUNDS.is("by GROWN", grown.field(0, 6), grownByGrown[days]);
            flow.days(1);
            wide.days(1);
            day.days(1);
            grown.days(1);
        }
    }

    private static void grownToTheMost() {
        BOUNDS.sentence(12, GROWN);
        // 101 times 99 is 9,999; 102 times 98 is 9,996
        SluiceLogs by99 = BOUNDS.of("field f 1; field g 1; worth = 99 - which; ");
        goTo(by99, 100);
        int[] f = {9900, 9999, 9999, 9999, 9999};
        int[] g = {9800, 9898, 9996, 9999, 9999};
        for (int more = 0; more < f.length; more++) {
            BOUNDS.is("of f behind " + (100 + more), by99.field(0, 6), f[more]);
            BOUNDS.is("of g behind " + (100 + more), by99.field(1, 6), g[more]);
            BOUNDS.is("of all", by99.count(12), f[more] + g[more]);
            BOUNDS.is("WORTH is as ever", by99.field(0, 5), 99);
            by99.days(1);
        }
        by99.days(60);
        BOUNDS.is("of all", by99.count(12), 2 * 9999);
        BOUNDS.is("undo", by99.undo(), true);
        SluiceLogs none = BOUNDS.of("field f 1; worth = 0 - 7; ");
        none.days(60);
        BOUNDS.is("by no WORTH", none.field(0, 6), 0);
    }

    private static void theNextDay() {
        BOUNDS.sentence(12, "It is the next day.");
        SluiceLogs logs = BOUNDS.of("field f 1; ");
        for (int day = 1; day <= 130; day++) {
            BOUNDS.is("days(1)", logs.days(1), day);
        }
        BOUNDS.is("day", logs.count(3), 130);
    }

    private static void cropToTheMost() {
        BOUNDS.sentence(27, CROP);
        SluiceLogs logs = BOUNDS.of("field f 1; field g 1; worth = 99 - which; ");
        BOUNDS.is("of 0 DAYS", logs.crop(0), 0);
        BOUNDS.is("of 1", logs.crop(1), 197);
        BOUNDS.is("of 60", logs.crop(60), 60 * 197);
        goTo(logs, 101);
        BOUNDS.is("f has the most", logs.crop(1), 98);
        BOUNDS.is("g comes to it", logs.crop(2), 101);
        BOUNDS.is("both have it", logs.crop(60), 101);
        logs.days(2);
        BOUNDS.is("no more", logs.crop(60), 0);
        BOUNDS.is("no FIELDS", BOUNDS.of("log a; ").crop(60), 0);
    }

    private static void cropWithoutSilt() {
        BOUNDS.sentence(27, "What would be (nothing happens; no silt but in IN n DAYS and YEAR).");
        SluiceLogs logs = BOUNDS.of("log a; field f 1; notch a f 3; notch a river 3; silts = 100; worth = wide; ");
        BOUNDS.is("CROP of 5 DAYS", logs.crop(5), 15);
        BOUNDS.is("GROWN IN 5 DAYS", logs.grownIn(0, 5), 6);
        BOUNDS.is("WIDTH IN 2 DAYS", logs.wideIn(0, 2), 1);
        BOUNDS.is("WIDTH now", logs.notch(0, 2), 3);
        logs.days(2);
        BOUNDS.is("CROP behind 2", logs.crop(5), 5);
        BOUNDS.refused("crop(60)", BoundsDaysTest::used, x -> x.crop(60), 60 * (3 + 3));
    }

    private static SluiceLogs used() {
        SluiceLogs logs = BOUNDS.of(TEXT);
        logs.spring(5);
        logs.hold(0);
        logs.drain(1, 0, 3);
        logs.tell(0, 2, true);
        return logs;
    }

    private static void noSuchCrop() {
        BOUNDS.sentence(27, "CROP; NONE: no such n.");
        BOUNDS.refused("crop(61)", BoundsDaysTest::used, x -> x.crop(61), -1);
        BOUNDS.refused("crop(0)", BoundsDaysTest::used, x -> x.crop(0), 0);
        for (int no : NO_SUCH) {
            BOUNDS.refused("crop(" + no + ")", BoundsDaysTest::used, x -> x.crop(no), -1);
        }
    }

    /** LOTS of SEED 77: 79 8 25, 84 31 96, 21 78 83, 34 33 22, so that 3 3 3, 3 2 2, 3 2 2, 2 2 2, 2 2 1 are the WIDTHS. */
    private static void grownIn() {
        BOUNDS.sentence(30, "IN n DAYS how much a FIELD has GROWN; NONE: no such ones.");
        int[] f = {0, 3, 6, 9, 11};
        int[] g = {0, 3, 5, 7, 9};
        for (int n = 0; n < f.length; n++) {
            int days = n;
            BOUNDS.refused("of f IN " + n, BoundsDaysTest::used, x -> x.grownIn(0, days), f[n]);
            BOUNDS.is("of g IN " + n, used().grownIn(1, n), g[n]);
        }
        SluiceLogs most = BOUNDS.of("field f 1; field g 1; worth = 99 - which; ");
        BOUNDS.is("IN 60", most.grownIn(0, 60), 5940);
        BOUNDS.is("IN 60, the last FIELD", most.grownIn(1, 60), 5880);
        goTo(most, 60);
        BOUNDS.is("IN 40 more", most.grownIn(0, 40), 9900);
        BOUNDS.is("IN 41 more", most.grownIn(0, 41), 9999);
        BOUNDS.is("IN 42 more", most.grownIn(0, 42), 9999);
        BOUNDS.is("IN 42 more, g", most.grownIn(1, 42), 9996);
        BOUNDS.is("IN 43 more, g", most.grownIn(1, 43), 9999);
        BOUNDS.refused("IN 61", BoundsDaysTest::used, x -> x.grownIn(0, 61), -1);
        BOUNDS.refused("FIELD 2 of 2", BoundsDaysTest::used, x -> x.grownIn(2, 0), -1);
        for (int no : NO_SUCH) {
            BOUNDS.is("IN " + no, used().grownIn(0, no), -1);
            BOUNDS.is("FIELD " + no, used().grownIn(no, 0), -1);
        }
    }

    private static void wideIn() {
        BOUNDS.sentence(31, "IN n DAYS the WIDTH of a NOTCH; NONE: no such ones.");
        int[] dues = {333, 322, 322, 222, 221};
        for (int n = 0; n < dues.length; n++) {
            int days = n;
            BOUNDS.refused("of NOTCH 0 IN " + n, BoundsDaysTest::used, x -> x.wideIn(0, days), dues[n] / 100);
            BOUNDS.is("of NOTCH 1 IN " + n, used().wideIn(1, n), dues[n] / 10 % 10);
            BOUNDS.is("of NOTCH 2 IN " + n, used().wideIn(2, n), dues[n] % 10);
        }
        BOUNDS.is("IN 60", BOUNDS.of("log a; notch a river 3; silts = if day < 59 then 0 else 100; ").wideIn(0, 60), 2);
        BOUNDS.is("IN 59", BOUNDS.of("log a; notch a river 3; silts = if day < 59 then 0 else 100; ").wideIn(0, 59), 3);
        BOUNDS.refused("IN 61", BoundsDaysTest::used, x -> x.wideIn(0, 61), -1);
        BOUNDS.refused("NOTCH 3 of 3", BoundsDaysTest::used, x -> x.wideIn(3, 0), -1);
        for (int no : NO_SUCH) {
            BOUNDS.is("IN " + no, used().wideIn(0, no), -1);
            BOUNDS.is("NOTCH " + no, used().wideIn(no, 0), -1);
        }
    }

    private static void year() {
        BOUNDS.sentence(32, YEAR);
        SluiceLogs day = BOUNDS.of("field f 1; field g 1; needs = if day < 60 then which else 1; ");
        BOUNDS.is("not yet", day.year(0, 59, 20), 0);
        BOUNDS.is("IN 60 DAYS", day.year(0, 60, 20), 20);
        BOUNDS.is("the other FIELD", day.year(1, 0, 20), 20);
        BOUNDS.is("by 1 SEED", day.year(0, 60, 1), 1);
        BOUNDS.is("IN 0 DAYS", day.year(0, 0, 1), 0);
        day.days(1);
        BOUNDS.is("IN 59 DAYS from day 1 on", day.year(0, 59, 20), 20);
        // its NOTCH is the only one: whichever SEED, it has all, or by WIDTH 0 nothing
        SluiceLogs just = BOUNDS.of("log a; field f 1; notch a f 3; silts = 100; needs = 800; ");
        BOUNDS.is("just enough", just.year(0, 2, 20), 0);
        BOUNDS.is("nothing", just.year(0, 3, 20), 20);
        SluiceLogs more = BOUNDS.of("log a; field f 1; notch a f 3; silts = 100; needs = 801; ");
        BOUNDS.is("just not enough", more.year(0, 2, 20), 20);
        BOUNDS.refused("YEAR", BoundsDaysTest::used, x -> x.year(0, 0, 20), 0);
    }

    /** On day 0 the LOTS of NOTCH 0 are 25, 38, 16, 95 by the SEEDS 9998, 9999, 10000, 10001, and 35, 3, 69 by 0, 1, 2. */
    private static void yearFromTheSeedOn() {
        BOUNDS.sentence(32, YEAR);
        String text = "log a; field f 1; notch a f 1; silts = 36; needs = 800; seed ";
        int[] from9998 = {1, 1, 2, 2};
        int[] from0 = {1, 2, 2};
        for (int s = 1; s <= 4; s++) {
            BOUNDS.is("from 9998 by " + s, BOUNDS.of(text + "9998; ").year(0, 1, s), from9998[s - 1]);
        }
        for (int s = 1; s <= 3; s++) {
            BOUNDS.is("from 0 by " + s, BOUNDS.of(text + "0; ").year(0, 1, s), from0[s - 1]);
            BOUNDS.is("from 9999 by " + s, BOUNDS.of(text + "9999; ").year(0, 1, s), from9998[s] - 1);
        }
        BOUNDS.is("from 1", BOUNDS.of(text + "1; ").year(0, 1, 1), 1);
        BOUNDS.is("from 2", BOUNDS.of(text + "2; ").year(0, 1, 1), 0);
    }

    private static void noSuchYear() {
        BOUNDS.sentence(32, "YEAR; NONE: no such ones.");
        BOUNDS.refused("by 0 SEEDS", BoundsDaysTest::used, x -> x.year(0, 1, 0), -1);
        BOUNDS.refused("by 21 SEEDS", BoundsDaysTest::used, x -> x.year(0, 1, 21), -1);
        BOUNDS.refused("IN 61 DAYS", BoundsDaysTest::used, x -> x.year(0, 61, 1), -1);
        BOUNDS.refused("FIELD 2 of 2", BoundsDaysTest::used, x -> x.year(2, 1, 1), -1);
        for (int no : NO_SUCH) {
            BOUNDS.is("FIELD " + no, used().year(no, 1, 1), -1);
            BOUNDS.is("IN " + no, used().year(0, no, 1), -1);
            BOUNDS.is("by " + no, used().year(0, 1, no), -1);
        }
        BOUNDS.is("no FIELDS", BOUNDS.of("log a; ").year(0, 1, 1), -1);
    }
}
