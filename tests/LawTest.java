/** LAWS: how an E counts, what is looked at, what a LAW is held to. */
final class LawTest {
    private static final Due DUE = new Due();

    public static void main(String[] args) {
        counts();
        longOnes();
        wraps();
        ifs();
        dividesByNought();
        held();
        untold();
        DUE.end();
    }

    private static void needs(String law, int due) {
        SluiceLogs logs = DUE.of("log a; field e 9; field f 7; notch a f 2; notch a river 1; drain f a 1; needs = " + law + ";");
        DUE.due(law, logs.field(1, 4), due);
    }

    private static void counts() {
        needs("10 - 3 - 2", 5);
        needs("10 - (3 - 2)", 9);
        needs("100 / 5 / 2", 10);
        needs("100 / (5 / 2)", 50);
        needs("2 + 3 * 4", 14);
        needs("(2 + 3) * 4", 20);
        needs("2 * 3 + 4 * 5 - 6 / 2", 23);
        needs("12 / 5 * 5", 10);
        needs("10 + (0 - 7) / 2", 7);
        needs("10 - 7 / 2", 7);
        needs("20 - ((1 + 2) * (3 + (4 - 1)))", 2);
        needs("0012", 12);
        // six ( with two more waiting ahead of each
        needs("1-1*(3+1*(5-6*(7-8*(9-1*(2-3*(4-5*6))))))", 3443);
        // 8 + 2/3 * 1/4 of it is 48/5, two thirds of that 32/5
        needs("flow", 640);
        needs("area + wide * 10 + which * 100 + store * 1000 + grown + day", 7 + 20 + 100 + 1000);
        needs("logs * 10 + fields", 12);
    }

    private static void longOnes() {
        SluiceLogs logs = DUE.of("field f 1; needs = " + "1+".repeat(196) + "1;");
        DUE.due("197 ones, 400 tokens", logs.field(0, 4), 197);
    }

    private static void wraps() {
        needs("0 - 9999 * 9999 * 9999 / 1000 / 1000", 1027);
        needs("if 8192 * 8192 * 32 < 0 then 5 else 6", 5);
        needs("if 8192 * 8192 * 32 / (0 - 1) < 0 then 5 else 6", 5);
        needs("if 8192 * 8192 * 32 - 1 < 0 then 5 else 6", 6);
        needs("8192 * 8192 * 64 + 3", 3);
    }

    private static void ifs() {
        needs("if 1 < 2 then 3 else 4", 3);
        needs("if 2 < 2 then 3 else 4", 4);
        needs("if 3 < 2 then 3 else if 1 < 2 then 5 else 6", 5);
        needs("if 3 < 2 then 3 else if 3 < 2 then 5 else 6 * 2", 12);
        needs("if 1 < 2 then 3 else if 1 < 2 then 5 else 6", 3);
        needs("if area < 8 then area * 10 else 1", 70);
        needs("if 1<0 then 1 else if 1<0 then 2 else if 1<0 then 3 else if which<2 then 4 else 5", 4);
    }

    private static void dividesByNought() {
        needs("1 / 0", 0);
        needs("5 + 0 * (3 / 0)", 0);
        needs("7 / (3 - 3) + 9", 0);
        needs("if 1 < 2 then 5 else 1 / 0", 5);
        needs("if 2 < 1 then 1 / 0 else 7", 7);
        needs("if 1 / 0 < 1 then 5 else 6", 0);
        needs("if 0 < 1 / day then 5 else 6", 0);
        needs("if 1 < 2 then 3 else if 1 / 0 < 1 then 4 else 5", 3);
        needs("if 1 < 2 then 3 / 0 else 5", 0);
        needs("0 / 5 + 4", 4);
    }

    private static void held() {
        needs("9999 + 1", 9999);
        needs("0 - 1", 0);
        SluiceLogs logs = DUE.of("log a; field f 7; notch a f 2; worth = 100; costs = 100; silts = 101;");
        DUE.due("worth", logs.field(0, 5), 99);
        DUE.due("costs", logs.notch(0, 3), 99);
        DUE.due("silts", logs.notch(0, 4), 100);
        logs = DUE.of("log a; field f 7; notch a f 2; worth = 0 - 5; costs = 0 - 5; silts = 0 - 5;");
        DUE.due("worth", logs.field(0, 5), 0);
        DUE.due("costs", logs.notch(0, 3), 0);
        DUE.due("silts", logs.notch(0, 4), 0);
        logs = DUE.of("log a; field f 7; notch a f 2; costs = 1 / 0; costs = wide; silts = 50; silts = flow + area + store + grown;");
        DUE.due("costs, the last one", logs.notch(0, 3), 2);
        DUE.due("silts, the last one", logs.notch(0, 4), 0);
    }

    private static void untold() {
        SluiceLogs logs = DUE.of("log a; field f 7; notch a f 1; notch a river 3; spring 1;");
        DUE.due("needs", logs.field(0, 4), 7);
        DUE.due("worth", logs.field(0, 5), 25);
        DUE.due("costs", logs.notch(0, 3), 1);
        DUE.due("silts", logs.notch(0, 4), 0);
    }
}
