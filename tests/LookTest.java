/** Promises 1, 6, 7, 8, 14 to 17, 25, 26 and 39: what there is, and what all have. */
final class LookTest {
    private static final Due DUE = new Due();
    private static final String TWO = "log a; log b; field f 9; field g 20; notch a f 1; notch a b 2; notch b g 1;"
            + "notch b river 2; spring 9;";

    public static void main(String[] args) {
        aNewObject();
        withoutDrain();
        withDrain();
        wrongInputs();
        nothingComes();
        rings();
        floods();
        noLogsOrNoFields();
        richestAndSpread();
        lawsOfAll();
        DUE.end();
    }

    private static void aNewObject() {
        SluiceLogs logs = new SluiceLogs();
        for (int what = 0; what <= 13; what++) {
            DUE.due("count " + what, logs.count(what), what == 5 ? 8 : 0);
        }
        river(logs, 8, 1, 0, 1);
        DUE.due("place", logs.place(), -1);
        DUE.due("log", logs.log(0, 3), -1);
        DUE.due("field", logs.field(0, 3), -1);
        DUE.due("notch", logs.notch(0, 1), -1);
        DUE.due("dry", logs.dry(), 0);
        DUE.due("lacking", logs.lacking(), 0);
        DUE.due("spread", logs.spread(), 0);
        DUE.due("richest", logs.richest(), -2);
    }

    private static void has(SluiceLogs logs, String sort, int number, int over, int under) {
        boolean log = sort.equals("log");
        DUE.due(sort + number + " over", log ? logs.log(number, 0) : logs.field(number, 0), over);
        DUE.due(sort + number + " under", log ? logs.log(number, 1) : logs.field(number, 1), under);
    }

    private static void river(SluiceLogs logs, int over, int under, int keptOver, int keptUnder) {
        DUE.due("river 0", logs.river(0), over);
        DUE.due("river 1", logs.river(1), under);
        DUE.due("river 2", logs.river(2), keptOver);
        DUE.due("river 3", logs.river(3), keptUnder);
    }

    private static void withoutDrain() {
        SluiceLogs logs = DUE.of(TWO);
        has(logs, "log", 0, 9, 1);
        has(logs, "log", 1, 6, 1);
        has(logs, "field", 0, 3, 1);
        has(logs, "field", 1, 2, 1);
        river(logs, 4, 1, 5, 1);
        int[] logB = {6, 1, 3, 12};
        int[] fieldG = {2, 1, 200, 20, 20, 99, 0, 0, -2, 1};
        int[] notchToB = {0, 1, 2, 1, 0};
        int[] counts = {2, 2, 4, 0, 0, 9, 0, 500, 0, 0, 0, 0, 0, 255};
        for (int what = 0; what < counts.length; what++) {
            DUE.due("count " + what, logs.count(what), counts[what]);
            DUE.due("log 1 " + what, logs.log(1, what), what < 4 ? logB[what] : -1);
            DUE.due("field 1 " + what, logs.field(1, what), what < 10 ? fieldG[what] : -1);
            DUE.due("notch 1 " + what, logs.notch(1, what), what < 5 ? notchToB[what] : -1);
        }
        DUE.due("widths of a", DUE.of(TWO.replace("a b 2", "a b 3")).log(0, 2), 4);
        DUE.due("widths of b", DUE.of(TWO.replace("a b 2", "a b 3")).log(1, 2), 3);
        DUE.due("notches of a", logs.log(0, 3), 3);
        DUE.due("spread", logs.spread(), 100);
        DUE.due("richest", logs.richest(), 0);
        DUE.due("to g", logs.notch(2, 1), 11);
        DUE.due("to the river", logs.notch(3, 1), 20);
        DUE.due("its log", logs.notch(3, 0), 1);
        DUE.due("round", logs.round(), 0);
    }

    private static void withDrain() {
        SluiceLogs logs = DUE.of(TWO + "drain f a 1;");
        has(logs, "log", 0, 108, 11);
        has(logs, "log", 1, 72, 11);
        has(logs, "field", 0, 36, 11);
        has(logs, "field", 1, 24, 11);
        river(logs, 48, 11, 51, 11);
        DUE.due("flow", logs.field(0, 2), 327);
        DUE.due("flow", logs.field(1, 2), 218);
        DUE.due("flows", logs.count(7), 545);
        DUE.due("quarters", logs.field(0, 7), 1);
        DUE.due("drains to", logs.field(0, 8), 0);
        DUE.due("round", logs.round(), 81);
        SluiceLogs last = DUE.of(TWO + "drain f a 1; drain g a 2; drain f b 3; drain g b 0;");
        DUE.due("quarters", last.field(0, 7), 3);
        DUE.due("drains to", last.field(0, 8), 1);
        DUE.due("quarters", last.field(1, 7), 0);
        DUE.due("drains to", last.field(1, 8), 1);
        has(last, "log", 1, 33, 4);
        has(last, "field", 1, 11, 4);
        DUE.due("round", last.round(), 225);
    }

    private static void wrongInputs() {
        SluiceLogs logs = DUE.of(TWO);
        for (int wrong : new int[] {-1, Integer.MIN_VALUE, Integer.MAX_VALUE, 20}) {
            DUE.due("log " + wrong, logs.log(wrong, 0), -1);
            DUE.due("field " + wrong, logs.field(wrong, 0), -1);
            DUE.due("notch " + wrong, logs.notch(wrong, 0), -1);
            DUE.due("log 0 " + wrong, logs.log(0, wrong), -1);
            DUE.due("field 0 " + wrong, logs.field(0, wrong), -1);
            DUE.due("notch 0 " + wrong, logs.notch(0, wrong), -1);
            DUE.due("river " + wrong, logs.river(wrong), -1);
            DUE.due("count " + wrong, logs.count(wrong), -1);
        }
        DUE.due("log 2", logs.log(2, 0), -1);
        DUE.due("field 2", logs.field(2, 0), -1);
        DUE.due("notch 4", logs.notch(4, 0), -1);
    }

    private static void nothingComes() {
        // c and d are a ring that nothing comes to; g is led to by it alone, h by none
        SluiceLogs logs = DUE.of("log a; log c; log d; field f 1; field g 1; field h 1; notch a f 1; notch c d 1;"
                + "notch d c 1; notch d g 0; notch c g 0; drain g a 3;");
        has(logs, "log", 1, 0, 1);
        has(logs, "log", 2, 0, 1);
        has(logs, "field", 1, 0, 1);
        has(logs, "field", 2, 0, 1);
        DUE.due("flood", logs.count(6), 0);
        DUE.due("dry", logs.dry(), 6);
        DUE.due("lacking", logs.lacking(), 6);
        DUE.due("richest", logs.richest(), 0);
        DUE.due("spread", logs.spread(), 800);
        river(logs, 0, 1, 8, 1);
        SluiceLogs closed = DUE.of("log a; field f 1; notch a f 0; notch a a 0;");
        has(closed, "log", 0, 8, 1);
        has(closed, "field", 0, 0, 1);
        river(closed, 8, 1, 0, 1);
        SluiceLogs bare = DUE.of("log a; log b; field f 1; notch b f 3;");
        has(bare, "log", 0, 8, 1);
        has(bare, "log", 1, 0, 1);
        river(bare, 8, 1, 0, 1);
    }

    private static void rings() {
        SluiceLogs self = DUE.of("log a; field f 1; notch a a 2; notch a f 1;");
        has(self, "log", 0, 24, 1);
        has(self, "field", 0, 8, 1);
        SluiceLogs up = DUE.of("log a; log b; field f 1; notch a b 3; notch b a 2; notch b f 1; drain f b 3; spring 7;");
        // b = a; f = b / 3; a = 7 + 2b/3; b = a + f * 3/4 can not be with b = a, so: b = 7 + 2b/3 + b/4
        has(up, "log", 1, 84, 1);
        has(up, "log", 0, 63, 1);
        has(up, "field", 0, 28, 1);
        river(up, 0, 1, 7, 1);
        DUE.due("round", up.round(), 2100);
        // three logs and odd quarters: a = 8 + 3g/4, b = a/2 + f/4, c = b/3, f = a/2, g = 2b/3 + c
        SluiceLogs odd = DUE.of("log a; log b; log c; field f 1; field g 1; notch a b 1; notch a f 1; notch b c 1;"
                + "notch b g 2; notch c g 3; drain g a 3; drain f b 1;");
        has(odd, "log", 0, 256, 17);
        has(odd, "log", 1, 160, 17);
        has(odd, "log", 2, 160, 51);
        has(odd, "field", 0, 128, 17);
        has(odd, "field", 1, 160, 17);
        river(odd, 0, 1, 8, 1);
        SluiceLogs drained = DUE.of("log a; field f 1; notch a f 3; drain f a 3; spring 9;");
        has(drained, "field", 0, 36, 1);
        DUE.due("flow", drained.field(0, 2), 3600);
        DUE.due("round", drained.round(), 2700);
    }

    private static void flood(String text, boolean is) {
        SluiceLogs logs = DUE.of(text);
        DUE.due("flood", logs.count(6), is ? 1 : 0);
        DUE.due("under", logs.log(0, 1) == 0 && logs.field(0, 1) == 0, is);
        if (is) {
            has(logs, "log", 0, 0, 0);
            has(logs, "field", 0, 0, 0);
            river(logs, 0, 0, 0, 0);
            DUE.due("flow", logs.field(0, 2), 0);
            DUE.due("worth", logs.field(0, 5), 0);
            DUE.due("flows", logs.count(7), 0);
            DUE.due("round", logs.round(), 0);
            DUE.due("dry", logs.dry(), 0);
            DUE.due("lacking", logs.lacking(), 1);
            DUE.due("spread", logs.spread(), 0);
            DUE.due("richest", logs.richest(), -2);
            DUE.due("hangs", logs.hangs(0), 0);
            DUE.due("unfelt", logs.unfelt(), logs.count(13));
            DUE.due("best", logs.best(0, 0), -2);
            DUE.due("best flow", logs.best(0, 1), -2);
            DUE.due("tempted", logs.tempted(), 0);
        }
    }

    private static void floods() {
        String two = "log a; log b; field f 5;";
        flood(two + "notch a b 1; notch b a 1; notch b f 0;", true);
        flood(two + "notch a a 1;", true);
        flood(two + "notch a f 1; notch a b 1; notch b b 1;", true);
        flood(two + "notch a f 1; notch a b 0; notch b b 1;", false);
        flood(two + "notch a f 1; notch a b 1; notch b b 1; notch b river 1;", false);
        flood(two + "notch a f 1; notch a b 1; notch b b 0;", false);
        flood(two + "notch a f 1; notch b b 1; drain f b 1;", true);
        flood(two + "notch a f 1; notch b b 1; drain f b 0;", false);
        flood(two + "notch a river 1; notch a f 0; notch b b 1; drain f b 3;", false);
        flood(two + "notch a b 1; notch b a 1; notch b f 1; drain f a 3;", false);
    }

    private static void noLogsOrNoFields() {
        SluiceLogs fields = DUE.of("field f 3; field g 4; spring 5;");
        has(fields, "field", 0, 0, 1);
        river(fields, 5, 1, 0, 1);
        DUE.due("dry", fields.dry(), 3);
        DUE.due("lacking", fields.lacking(), 3);
        DUE.due("richest", fields.richest(), 0);
        DUE.due("again", fields.again(0, 1), -1);
        SluiceLogs logs = DUE.of("log a; log b; notch a b 1; notch a a 2; spring 5;");
        has(logs, "log", 0, 15, 1);
        has(logs, "log", 1, 5, 1);
        river(logs, 5, 1, 0, 1);
        DUE.due("spread", logs.spread(), 0);
        DUE.due("richest", logs.richest(), -2);
        DUE.due("round", logs.round(), 0);
        DUE.due("unfelt", logs.unfelt(), 15);
        DUE.due("ask", logs.ask(0), -2);
        DUE.due("fits", logs.fits(0, 1), 15);
        DUE.due("mend", logs.mend(-1), 0);
    }

    private static void richestAndSpread() {
        // FLOWS alike, 266, but g has more by less than a hundredth
        SluiceLogs logs = DUE.of("log a; field f 1; field g 1; field h 1; notch a f 1; notch a g 1; notch a h 1;");
        DUE.due("richest of alike ones", logs.richest(), 0);
        DUE.due("spread", logs.spread(), 0);
        logs.step(2, true);
        DUE.due("richest", logs.richest(), 2);
        DUE.due("spread", logs.spread(), 200);
        logs.step(1, true);
        DUE.due("richest", logs.richest(), 1);
        logs.spring(1);
        DUE.due("spread", logs.spread(), 20);
    }

    private static void lawsOfAll() {
        SluiceLogs logs = DUE.of(TWO + "drain g a 2;"
                + "needs = flow + area * 100 + wide * 1000; worth = store * 10 + which + logs + fields;"
                + "costs = wide * 20 + which + logs + fields + area + flow + store + grown; silts = which * 30 + wide;");
        has(logs, "field", 1, 9, 4);
        DUE.due("needs", logs.field(0, 4), 337 + 900 + 1000);
        DUE.due("needs", logs.field(1, 4), 225 + 2000 + 1000);
        DUE.due("worth", logs.field(0, 5), 4);
        DUE.due("worth", logs.field(1, 5), 25);
        DUE.due("costs", logs.notch(1, 3), 45);
        DUE.due("costs", logs.notch(3, 3), 47);
        DUE.due("silts", logs.notch(0, 4), 1);
        DUE.due("silts", logs.notch(3, 4), 92);
        DUE.due("days", logs.days(0), 0);
        DUE.due("wide", logs.field(1, 9), 1);
    }
}
