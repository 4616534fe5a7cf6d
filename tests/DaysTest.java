/** Promises 12, 27 and 30 to 32: DAYS gone by and DAYS that would go by, with silt and without. */
final class DaysTest {
    private static final Due DUE = new Due();
    private static final String THREE = "log a; field f 60; notch a f 3; notch a river 3; notch a f 3;";

    public static void main(String[] args) {
        allByHowItBegan();
        growsToTheMost();
        crop();
        silts();
        siltsByLaw();
        inDays();
        year();
        wrongInputs();
        DUE.end();
    }

    private static void allByHowItBegan() {
        SluiceLogs logs = DUE.of("log a; field f 5; notch a f 2; notch a river 2; silts = 100; worth = wide * 10 + day;");
        logs.days(1);
        DUE.due("grown by the widths ahead", logs.field(0, 6), 20);
        DUE.due("width", logs.notch(0, 2), 1);
        logs.days(1);
        DUE.due("grown", logs.field(0, 6), 31);
        DUE.due("has", logs.field(0, 0), 0);
        logs.days(1);
        DUE.due("grown", logs.field(0, 6), 33);
        DUE.due("width", logs.notch(0, 2), 0);
        // by its own grown as it was: 1, 2, 4, 8
        SluiceLogs doubles = DUE.of("field f 5; field g 5; worth = if grown < 1 then 1 else grown;");
        doubles.days(4);
        DUE.due("grown", doubles.field(1, 6), 8);
        DUE.due("worth", doubles.field(1, 5), 8);
        // flow follows the silt from day to day
        SluiceLogs flow = DUE.of("log a; field f 5; notch a f 1; notch a river 2; worth = flow / 10; silts = 60 * which; seed 77; spring 3;");
        // lots of notch 1: 8, 31, so 100, then 150, then 300 of flow
        flow.days(3);
        DUE.due("grown", flow.field(0, 6), 10 + 15 + 30);
    }

    private static void growsToTheMost() {
        SluiceLogs logs = DUE.of("field f 1; field g 1; worth = 99 - which * 98;");
        logs.days(60);
        DUE.due("grown", logs.field(0, 6), 5940);
        DUE.due("crop", logs.crop(60), 9999 - 5940 + 60);
        DUE.due("grownIn", logs.grownIn(0, 41), 5940 + 41 * 99);
        DUE.due("grownIn", logs.grownIn(0, 42), 9999);
        logs.days(60);
        DUE.due("grown", logs.field(0, 6), 9999);
        DUE.due("grown of all", logs.count(12), 9999 + 120);
        DUE.due("crop", logs.crop(1), 1);
    }

    private static void crop() {
        SluiceLogs logs = DUE.of("log a; field f 5; notch a f 2; notch a river 2; silts = 100; worth = wide * 10 + day;");
        DUE.due("0", logs.crop(0), 0);
        DUE.due("1", logs.crop(1), 20);
        DUE.due("without silt", logs.crop(3), 20 + 21 + 22);
        logs.days(2);
        DUE.due("behind silt", logs.crop(2), 2 + 3);
        DUE.due("-1", logs.crop(-1), -1);
        DUE.due("61", logs.crop(61), -1);
    }

    private static void widths(SluiceLogs logs, int due) {
        DUE.due("widths", logs.notch(0, 2) * 100 + logs.notch(1, 2) * 10 + logs.notch(2, 2), due);
    }

    /** By LOTS that were counted apart from this program. */
    private static void silts() {
        SluiceLogs logs = DUE.of(THREE + "seed 77; silts = 30;");
        int[] dues = {322, 322, 222, 221, 210, 210, 210, 210, 100, 0, 0};
        for (int due : dues) {
            logs.days(1);
            widths(logs, due);
        }
        logs = DUE.of(THREE + "silts = 50;");
        for (int due : new int[] {222, 122, 12, 11, 0}) {
            logs.days(1);
            widths(logs, due);
        }
        logs = DUE.of(THREE + "silts = 30; seed 1; seed 9999;");
        logs.days(5);
        widths(logs, 320);
        logs.days(2);
        widths(logs, 220);
        // LOTS of SEED 0 on day 0: 35, 4, 32
        for (int silt = 0; silt < 40; silt++) {
            logs = DUE.of(THREE + "silts = " + silt + ";");
            logs.days(1);
            widths(logs, 333 - (silt > 35 ? 100 : 0) - (silt > 4 ? 10 : 0) - (silt > 32 ? 1 : 0));
        }
    }

    private static void siltsByLaw() {
        SluiceLogs logs = DUE.of(THREE + "silts = if which < 1 then 100 else if day < 1 then wide * 50 else 0;");
        logs.days(1);
        widths(logs, 222);
        logs.days(2);
        widths(logs, 22);
        logs.days(60);
        widths(logs, 22);
    }

    private static void inDays() {
        SluiceLogs logs = DUE.of(THREE + "seed 77; silts = 30; worth = wide;");
        for (int ahead = 0; ahead < 2; ahead++) {
            int first = ahead == 0 ? 0 : 3;
            int[] notch0 = {3, 3, 3, 2, 2, 2, 2, 2, 2, 1, 0, 0};
            int[] notch2 = {3, 2, 2, 2, 1, 0, 0, 0, 0, 0, 0, 0};
            int grown = ahead == 0 ? 0 : 6 + 5 + 5;
            for (int n = 0; first + n < notch0.length; n++) {
                DUE.due("wideIn 0 " + n, logs.wideIn(0, n), notch0[first + n]);
                DUE.due("wideIn 2 " + n, logs.wideIn(2, n), notch2[first + n]);
                DUE.due("grownIn " + n, logs.grownIn(0, n), grown);
                grown += notch0[first + n] + notch2[first + n];
            }
            logs.days(3);
        }
    }

    private static void year() {
        // f needs two thirds of the water; widths behind 3 days by the seeds from 9998 on, counted apart:
        // 121 211 120 311 212 222 232 221 111 132 223 123
        String text = "log a; field f 60; field g 9; notch a f 3; notch a river 3; notch a g 3; silts = 40;"
                + "spring 3; needs = if which < 1 then 100 else 1;";
        SluiceLogs logs = DUE.of(text + "seed 9998;");
        boolean[] lacks = {true, false, false, false, false, false, true, false, false, true, true, true};
        int due = 0;
        for (int s = 1; s <= lacks.length; s++) {
            due += lacks[s - 1] ? 1 : 0;
            DUE.due("year " + s, logs.year(0, 3, s), due);
        }
        DUE.due("g is without water by one of them", logs.year(1, 3, 12), 1);
        DUE.due("one seed", DUE.of(text + "seed 9999;").year(0, 3, 1), 0);
        SluiceLogs always = DUE.of("field f 60;");
        DUE.due("always", always.year(0, 60, 20), 20);
        DUE.due("0 days", always.year(0, 0, 1), 1);
        SluiceLogs day = DUE.of("log a; field f 60; notch a f 1; needs = if day < 5 then 0 else 9999;");
        DUE.due("on day 4", day.year(0, 4, 20), 0);
        DUE.due("on day 5", day.year(0, 5, 20), 20);
        day.days(2);
        DUE.due("on day 5", day.year(0, 3, 7), 7);
        SluiceLogs grown = DUE.of("field f 60; worth = 10; needs = grown - 39;");
        DUE.due("grown 30", grown.year(0, 3, 2), 0);
        DUE.due("grown 40", grown.year(0, 4, 2), 2);
    }

    private static void wrongInputs() {
        SluiceLogs logs = DUE.of(THREE);
        for (int wrong : new int[] {-1, 61, Integer.MIN_VALUE, Integer.MAX_VALUE}) {
            DUE.due("crop " + wrong, logs.crop(wrong), -1);
            DUE.due("grownIn " + wrong, logs.grownIn(0, wrong), -1);
            DUE.due("grownIn of " + wrong, logs.grownIn(wrong, 0), -1);
            DUE.due("wideIn " + wrong, logs.wideIn(0, wrong), -1);
            DUE.due("wideIn of " + wrong, logs.wideIn(wrong, 0), -1);
            DUE.due("year " + wrong, logs.year(0, wrong, 1), -1);
            DUE.due("year of " + wrong, logs.year(wrong, 0, 1), -1);
            DUE.due("year by " + wrong, logs.year(0, 0, wrong), -1);
            DUE.due("days " + wrong, logs.days(wrong), -1);
        }
        DUE.due("year by 0", logs.year(0, 0, 0), -1);
        DUE.due("year by 21", logs.year(0, 0, 21), -1);
        DUE.due("year by 20", logs.year(0, 60, 20), 0);
        DUE.due("no such field", logs.grownIn(1, 0), -1);
        DUE.due("no such notch", logs.wideIn(3, 0), -1);
        DUE.due("the last notch", logs.wideIn(2, 60), 3);
    }
}
