/** Promises 16 to 26, 28 and 29: what would be. */
final class WouldTest {
    private static final Due DUE = new Due();
    private static final String TEXT = "log a; log b; field f 9; field g 20; notch a f 1; notch a b 2; notch b g 1;"
            + "notch b river 2; spring 9; needs = area * 10 + 50;";

    public static void main(String[] args) {
        lacking();
        feels();
        unfelt();
        best();
        tempted();
        mend();
        mendByMore();
        feeds();
        hangs();
        again();
        swap();
        nothingHappens();
        DUE.end();
    }

    private static void lacking() {
        SluiceLogs logs = DUE.of(TEXT);
        DUE.due("lacking", logs.lacking(), 2);
        logs.step(2, true);
        DUE.due("just enough is enough", logs.lacking(), 0);
        DUE.due("flow", logs.field(1, 2), 300);
        logs.step(0, false);
        DUE.due("lacking", logs.lacking(), 1);
        DUE.due("dry", logs.dry(), 1);
        SluiceLogs same = DUE.of("log a; field f 8; notch a f 1; spring 1; needs = 100;");
        DUE.due("as much as it needs", same.lacking(), 0);
        same = DUE.of("log a; field f 8; notch a f 1; spring 1; needs = 101;");
        DUE.due("one less", same.lacking(), 1);
        DUE.due("not dry", same.dry(), 0);
    }

    private static void feels() {
        SluiceLogs logs = DUE.of(TEXT);
        int[] f = {2, 1, 1, 2, 0, 0, 0, 0};
        int[] g = {1, 2, 2, 1, 2, 1, 1, 2};
        for (int step = 0; step < 8; step++) {
            DUE.due("f of " + step, logs.feels(step / 2, step % 2 == 1, 0), f[step]);
            DUE.due("g of " + step, logs.feels(step / 2, step % 2 == 1, 1), g[step]);
        }
        DUE.due("no such field", logs.feels(0, true, 2), -1);
        DUE.due("no such field", logs.feels(0, true, -1), -1);
        DUE.due("no such notch", logs.feels(4, true, 0), -1);
        DUE.due("no such notch", logs.feels(-1, true, 0), -1);
        logs.step(0, false);
        DUE.due("can not be", logs.feels(0, false, 0), -1);
        SluiceLogs flood = DUE.of("log a; log b; field f 1; notch a f 1; notch a b 0; notch b b 1;");
        DUE.due("a flood behind", flood.feels(1, true, 0), 0);
        DUE.due("no flood", flood.feels(0, true, 0), 0);
        flood.step(1, true);
        DUE.due("a flood ahead", flood.feels(1, false, 0), 0);
    }

    private static void unfelt() {
        SluiceLogs logs = DUE.of("log a; log b; log c; field f 1; notch a f 3; notch b f 2; notch c b 0; notch b river 3; notch a river 0;");
        // 0: a gives all to f still; 1 can not be; b and c get nothing; 9: the river takes some
        DUE.due("unfelt", logs.unfelt(), 1 | 4 | 8 | 32 | 64);
        DUE.due("all felt", DUE.of(TEXT).unfelt(), 0);
        DUE.due("no notches", DUE.of("log a; field f 1;").unfelt(), 0);
    }

    private static void best() {
        SluiceLogs logs = DUE.of(TEXT);
        DUE.due("f", logs.best(0, 0), 1);
        DUE.due("flow of f", logs.best(0, 1), 450);
        DUE.due("g", logs.best(1, 0), 0);
        DUE.due("flow of g", logs.best(1, 1), 300);
        for (int wrong : new int[] {-1, 2, Integer.MAX_VALUE}) {
            DUE.due("what " + wrong, logs.best(0, wrong), -1);
            DUE.due("field " + wrong, logs.best(wrong, 0), -1);
        }
        SluiceLogs all = DUE.of("log a; field f 1; field g 1; notch a f 2;");
        DUE.due("can not have more", all.best(0, 0), -2);
        DUE.due("can not have more", all.best(0, 1), -2);
        DUE.due("none leads to it", all.best(1, 1), -2);
        DUE.due("no such ones", all.best(2, 0), -1);
        // all that would be more is a flood
        SluiceLogs flood = DUE.of("log a; log b; field f 1; notch a b 1; notch b b 1; notch a f 1;");
        DUE.due("flood", flood.best(0, 0), -2);
        DUE.due("flood, no such ones", flood.best(1, 0), -1);
        flood.step(0, false);
        DUE.due("flood behind", flood.best(0, 0), -2);
        // by less than a hundredth, but more
        SluiceLogs little = DUE.of("log a; log b; log c; field f 1; notch a b 1; notch a river 3; notch a river 3; notch b c 1;"
                + "notch b river 3; notch b river 3; notch c f 1; notch c river 3; notch c river 3; spring 1;");
        DUE.due("best", little.best(0, 0), 1);
        DUE.due("flow", little.field(0, 2), 0);
        DUE.due("flow then", little.best(0, 1), 0);
        DUE.due("feels", little.feels(0, true, 0), 1);
    }

    private static void tempted() {
        DUE.due("both", DUE.of(TEXT).tempted(), 3);
        SluiceLogs logs = DUE.of(TEXT);
        logs.step(2, false);
        // the notch that leads to g has width 0 now: nobody there would have more by what leads to it
        DUE.due("width 0", logs.tempted(), 1);
        DUE.due("though it feels", logs.feels(2, true, 1), 1);
        // by a notch of its log that leads elsewhere
        SluiceLogs other = DUE.of("log a; field f 1; notch a f 3; notch a river 1;");
        DUE.due("stops the river", other.tempted(), 1);
        other.step(1, false);
        DUE.due("has all", other.tempted(), 0);
        DUE.due("by the first step", DUE.of("log a; field f 1; notch a river 1; notch a f 3;").tempted(), 1);
        // only at another log's notch would f have more
        SluiceLogs far = DUE.of("log a; log b; field f 1; notch a b 3; notch a river 1; notch b f 3;");
        DUE.due("far", far.tempted(), 0);
        DUE.due("best", far.best(0, 0), 2);
        DUE.due("no fields", DUE.of("log a; notch a river 1;").tempted(), 0);
    }

    private static void mends(SluiceLogs logs, int... steps) {
        DUE.due("mend", logs.mend(-1), steps.length);
        for (int i = 0; i < 5; i++) {
            DUE.due("mend " + i, logs.mend(i), i < steps.length ? steps[i] : -1);
        }
        DUE.due("mend of the greatest", logs.mend(Integer.MAX_VALUE), -1);
        DUE.due("mend -2", logs.mend(-2), -1);
        DUE.due("mend of the least", logs.mend(Integer.MIN_VALUE), -1);
    }

    private static void mend() {
        SluiceLogs logs = DUE.of(TEXT);
        mends(logs, 5);
        logs.step(2, true);
        mends(logs);
        SluiceLogs never = DUE.of("log a; field f 1; field g 1; notch a f 1;");
        DUE.due("not by 3", never.mend(-1), -2);
        DUE.due("not by 3", never.mend(0), -2);
        DUE.due("not by 3", never.mend(3), -2);
        SluiceLogs flood = DUE.of("log a; log b; field f 5; notch a b 1; notch b a 1; notch b f 0;");
        mends(flood, 5);
        mends(DUE.of("log a; log b; notch a b 1; notch b b 2;"), 0);
        mends(DUE.of("log a; log b; notch a b 2; notch b b 2;"), 0, 0);
    }

    private static void mendByMore() {
        mends(DUE.of("log a; field f 50; field g 50; notch a f 3; notch a g 0; spring 1;"), 0, 0, 3);
        mends(DUE.of("log a; field f 10; field g 50; notch a f 2; notch a g 1; spring 1;"), 0);
        // cut twice: the same step may be there more than once
        mends(DUE.of("log a; field f 75; notch a f 1; notch a river 1; spring 1;"), 2);
        mends(DUE.of("log a; field f 75; notch a f 0; notch a river 1; spring 1;"), 1, 2);
        mends(DUE.of("log a; field f 75; notch a f 1; notch a river 3; spring 1; needs = 60;"), 1, 1, 2);
        // one that can be done only behind another one
        mends(DUE.of("log a; field f 50; notch a f 0; notch a river 2; spring 1;"), 1, 1);
        DUE.due("not by 3", DUE.of("log a; field f 50; field g 50; notch a f 0; notch a g 0; notch a river 3;"
                + "spring 1;").mend(-1), -2);
    }

    private static void feeds() {
        SluiceLogs logs = DUE.of(TEXT);
        DUE.due("nothing is drained", logs.feeds(0), 0);
        logs.drain(0, 1, 1);
        DUE.due("to g", logs.feeds(0), 2);
        logs.drain(1, 0, 2);
        DUE.due("to all, itself too", logs.feeds(0), 3);
        DUE.due("g", logs.feeds(1), 3);
        logs.drain(0, 1, 0);
        DUE.due("none by a drain of 0", logs.feeds(0), 0);
        DUE.due("but into it", logs.feeds(1), 3);
        logs.step(0, false);
        DUE.due("not by width 0", logs.feeds(1), 2);
        DUE.due("no such", logs.feeds(2), -1);
        DUE.due("no such", logs.feeds(-1), -1);
        // by logs alone, ring and all
        SluiceLogs far = DUE.of("log a; log b; log c; log d; field f 1; field g 1; field h 1; notch a f 1; notch d c 1;"
                + "notch c b 1; notch b d 1; notch b g 2; notch c h 0; drain f d 1;");
        DUE.due("far", far.feeds(0), 2);
        far.drain(1, 0, 3);
        DUE.due("further", far.feeds(0), 3);
        SluiceLogs chain = DUE.of("log a; log b; log c; log d; field f 1; field g 1; notch a g 1; notch b a 1;"
                + "notch c b 1; notch d c 1; drain f d 1;");
        DUE.due("by all the logs", chain.feeds(0), 2);
    }

    private static void hangs() {
        SluiceLogs logs = DUE.of(TEXT);
        DUE.due("f", logs.hangs(0), 1);
        DUE.due("g", logs.hangs(1), 6);
        DUE.due("no such", logs.hangs(2), -1);
        DUE.due("no such", logs.hangs(-1), -1);
        logs.step(2, false);
        DUE.due("it has 0", logs.hangs(1), 0);
        SluiceLogs two = DUE.of("log a; log b; field f 1; notch a f 1; notch a b 1; notch b f 1;");
        DUE.due("two ways", two.hangs(0), 0);
        // without the notch to f there is a flood, which is not dry
        SluiceLogs flood = DUE.of("log a; field f 1; notch a f 1; notch a a 1;");
        DUE.due("a flood without", flood.hangs(0), 0);
        SluiceLogs drained = DUE.of("log a; log b; field f 1; field g 1; notch a f 1; notch b g 1; drain f b 1;");
        DUE.due("by a drain", drained.hangs(1), 3);
    }

    private static void again() {
        SluiceLogs logs = DUE.of(TEXT);
        DUE.due("told none: log 0", logs.again(0, 2), 360);
        DUE.due("told none: log 0", logs.again(1, 3), 240);
        DUE.due("0", logs.again(1, 0), 200);
        logs.drain(1, 1, 0);
        // b = 6 + b / 3 * 3/4
        DUE.due("to where it is", logs.again(1, 3), 266);
        DUE.due("nothing happens", logs.field(1, 7), 0);
        for (int wrong : new int[] {-1, 4, Integer.MAX_VALUE}) {
            DUE.due("field " + wrong, logs.again(wrong, 0), -1);
            DUE.due("quarters " + wrong, logs.again(0, wrong), -1);
        }
        DUE.due("field 2", logs.again(2, 0), -1);
        SluiceLogs flood = DUE.of("log a; log b; field f 1; notch a f 1; notch b b 1; drain f b 0;");
        DUE.due("a flood then", flood.again(0, 1), 0);
        DUE.due("no flood", flood.again(0, 0), 800);
    }

    private static void swap() {
        SluiceLogs logs = DUE.of(TEXT);
        DUE.due("swap", logs.swap(), 203);
        logs.step(2, true);
        DUE.due("none lacks", logs.swap(), -2);
        DUE.due("the first of alike ones", DUE.of("log a; field f 50; notch a river 1; notch a river 1; notch a f 0;"
                + "spring 1;").swap(), 2);
        DUE.due("the fewest, not the first", DUE.of("log a; log b; field f 1; field g 1; field h 1;"
                + "notch a f 0; notch a river 1; notch a b 0; notch b g 1; notch b h 1;").swap(), 102);
        DUE.due("no better", DUE.of("log a; field f 99; field g 99; notch a f 1; notch a g 2; spring 1;").swap(), -2);
    }

    private static void nothingHappens() {
        SluiceLogs logs = DUE.of(TEXT + "silts = 100; drain f b 1;");
        logs.step(0, true);
        logs.mend(-1);
        logs.swap();
        logs.hangs(1);
        logs.again(0, 3);
        logs.best(0, 0);
        logs.unfelt();
        logs.tempted();
        logs.crop(60);
        logs.grownIn(0, 60);
        logs.wideIn(0, 60);
        logs.year(0, 60, 20);
        logs.ask(0);
        int[] counts = {2, 2, 4, 0, 1, 9, 0, 450 + 187, 0, 1, 0, 0, 0, 255};
        for (int what = 0; what < counts.length; what++) {
            DUE.due("count " + what, logs.count(what), counts[what]);
        }
        DUE.due("f over", logs.field(0, 0), 9);
        DUE.due("f under", logs.field(0, 1), 2);
        DUE.due("quarters", logs.field(0, 7), 1);
    }
}
