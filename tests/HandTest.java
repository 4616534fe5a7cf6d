/** Promises 9 to 13, 37 and 38: what is done by hand, undone, held and gone on from. */
final class HandTest {
    private static final Due DUE = new Due();
    private static final String TEXT = "log a; log b; field f 9; field g 20; notch a f 1; notch a b 2; notch b g 1;"
            + "notch b river 0; drain g a 1; costs = wide * 10 + which + day;";

    public static void main(String[] args) {
        steps();
        drains();
        springs();
        days();
        undoes();
        undoesAtMostForty();
        holds();
        keepsWhatIsTold();
        DUE.end();
    }

    private static void steps() {
        SluiceLogs logs = DUE.of(TEXT);
        DUE.due("cut", logs.step(1, true), 21);
        DUE.due("width", logs.notch(1, 2), 3);
        DUE.due("cut at 3", logs.step(1, true), -1);
        DUE.due("stop", logs.step(0, false), 10);
        DUE.due("stop at 0", logs.step(0, false), -1);
        DUE.due("cut from 0", logs.step(3, true), 3);
        DUE.due("cut from 1", logs.step(3, true), 13);
        DUE.due("no such", logs.step(4, true), -1);
        DUE.due("no such", logs.step(-1, false), -1);
        DUE.due("no such", logs.step(Integer.MAX_VALUE, true), -1);
        DUE.due("no such", logs.step(Integer.MIN_VALUE, true), -1);
        DUE.due("paid", logs.count(4), 21 + 10 + 3 + 13);
        DUE.due("undone", logs.count(9), 4);
        DUE.due("steps that can be", logs.count(13), 2 | 4 | 16 | 32 | 64 | 128);
        DUE.due("has", logs.field(0, 0), 0);
        logs.days(2);
        DUE.due("costs", logs.notch(0, 3), 2);
        DUE.due("cut", logs.step(0, true), 2);
    }

    private static void drains() {
        SluiceLogs logs = DUE.of(TEXT);
        DUE.due("never told", logs.field(0, 8), -2);
        DUE.due("to 0, of 0, never told", logs.drain(0, 0, 0), true);
        DUE.due("is so", logs.drain(0, 0, 0), false);
        DUE.due("told", logs.field(0, 8), 0);
        DUE.due("is so", logs.drain(1, 0, 1), false);
        DUE.due("another log", logs.drain(1, 1, 1), true);
        DUE.due("other quarters", logs.drain(1, 1, 3), true);
        DUE.due("quarters", logs.field(1, 7), 3);
        DUE.due("log", logs.field(1, 8), 1);
        DUE.due("round", logs.round(), 1600);
        DUE.due("no such field", logs.drain(2, 0, 0), false);
        DUE.due("no such field", logs.drain(-1, 0, 0), false);
        DUE.due("no such log", logs.drain(0, 2, 0), false);
        DUE.due("no such log", logs.drain(0, -1, 0), false);
        DUE.due("no such log", logs.drain(0, -2, 0), false);
        DUE.due("no such quarters", logs.drain(0, 0, 4), false);
        DUE.due("no such quarters", logs.drain(0, 0, -1), false);
        DUE.due("undone", logs.count(9), 3);
        DUE.due("undo", logs.undo(), true);
        DUE.due("undo", logs.undo(), true);
        DUE.due("undo", logs.undo(), true);
        DUE.due("never told", logs.field(0, 8), -2);
        DUE.due("log", logs.field(1, 8), 0);
        DUE.due("paid", logs.count(4), 0);
    }

    private static void springs() {
        SluiceLogs logs = DUE.of(TEXT);
        DUE.due("is so", logs.spring(8), false);
        DUE.due("0", logs.spring(0), false);
        DUE.due("10", logs.spring(10), false);
        DUE.due("-1", logs.spring(-1), false);
        DUE.due("1", logs.spring(1), true);
        DUE.due("9", logs.spring(9), true);
        DUE.due("spring", logs.count(5), 9);
        DUE.due("has", logs.field(0, 0), 18);
        DUE.due("has", logs.field(0, 1), 5);
        DUE.due("undone", logs.count(9), 2);
    }

    private static void days() {
        SluiceLogs logs = DUE.of(TEXT + "worth = 2; silts = 100;");
        DUE.due("0", logs.days(0), 0);
        DUE.due("undone", logs.count(9), 0);
        DUE.due("-1", logs.days(-1), -1);
        DUE.due("61", logs.days(61), -1);
        DUE.due("1", logs.days(1), 1);
        DUE.due("60", logs.days(60), 61);
        DUE.due("0", logs.days(0), 61);
        DUE.due("grown", logs.field(0, 6), 122);
        DUE.due("grown of all", logs.count(12), 244);
        DUE.due("undone", logs.count(9), 2);
        DUE.due("undo", logs.undo(), true);
        DUE.due("day", logs.count(3), 1);
        DUE.due("width", logs.notch(1, 2), 1);
        DUE.due("grown", logs.field(0, 6), 2);
        DUE.due("paid", logs.count(4), 0);
    }

    private static void undoes() {
        SluiceLogs logs = DUE.of(TEXT);
        DUE.due("nothing", logs.undo(), false);
        logs.step(0, true);
        logs.spring(3);
        logs.drain(0, 1, 2);
        logs.days(4);
        logs.step(0, true);
        DUE.due("undone", logs.count(9), 5);
        DUE.due("paid", logs.count(4), 10 + 24);
        DUE.due("undo", logs.undo(), true);
        DUE.due("width", logs.notch(0, 2), 2);
        DUE.due("paid", logs.count(4), 10);
        DUE.due("undo", logs.undo(), true);
        DUE.due("day", logs.count(3), 0);
        DUE.due("grown", logs.count(12), 0);
        DUE.due("undo", logs.undo(), true);
        DUE.due("quarters", logs.field(0, 7), 0);
        DUE.due("undo", logs.undo(), true);
        DUE.due("spring", logs.count(5), 8);
        DUE.due("has", logs.field(0, 0), 32);
        DUE.due("of", logs.field(0, 1), 7);
        DUE.due("undo", logs.undo(), true);
        DUE.due("width", logs.notch(0, 2), 1);
        DUE.due("nothing", logs.undo(), false);
        DUE.due("undone", logs.count(9), 0);
    }

    private static void undoesAtMostForty() {
        SluiceLogs logs = DUE.of(TEXT);
        for (int i = 1; i <= 47; i++) {
            DUE.due("spring", logs.spring(1 + i % 3), true);
            DUE.due("undone", logs.count(9), Math.min(i, 40));
        }
        for (int i = 46; i >= 7; i--) {
            DUE.due("undo", logs.undo(), true);
            DUE.due("spring", logs.count(5), 1 + i % 3);
        }
        DUE.due("undo", logs.undo(), false);
        DUE.due("spring", logs.spring(9), true);
        DUE.due("undo", logs.undo(), true);
        DUE.due("spring", logs.count(5), 2);
    }

    private static void holds() {
        SluiceLogs logs = DUE.of(TEXT);
        for (int slot : new int[] {-1, 3, Integer.MIN_VALUE, Integer.MAX_VALUE}) {
            DUE.due("hold " + slot, logs.hold(slot), false);
            DUE.due("restore " + slot, logs.restore(slot), false);
        }
        DUE.due("holds nothing", logs.restore(0), false);
        logs.step(0, true);
        logs.spring(5);
        logs.drain(0, 1, 3);
        logs.days(2);
        DUE.due("hold", logs.hold(2), true);
        DUE.due("slots", logs.count(11), 1);
        DUE.due("can still be undone", logs.count(9), 4);
        int grown = logs.count(12);
        while (logs.undo()) {
            DUE.due("slots", logs.count(11), 1);
        }
        DUE.due("hold", logs.hold(0), true);
        DUE.due("hold again", logs.hold(0), true);
        DUE.due("slots", logs.count(11), 2);
        logs.step(1, false);
        DUE.due("restore", logs.restore(1), false);
        DUE.due("undone", logs.count(9), 1);
        DUE.due("restore", logs.restore(2), true);
        DUE.due("undone", logs.count(9), 0);
        DUE.due("undo", logs.undo(), false);
        DUE.due("widths", logs.notch(0, 2) * 10 + logs.notch(1, 2), 22);
        DUE.due("spring", logs.count(5), 5);
        DUE.due("day", logs.count(3), 2);
        DUE.due("paid", logs.count(4), 10);
        DUE.due("grown", logs.count(12), grown);
        DUE.due("quarters", logs.field(0, 7), 3);
        logs.days(1);
        DUE.due("restore again", logs.restore(2), true);
        DUE.due("day", logs.count(3), 2);
        DUE.due("restore", logs.restore(0), true);
        DUE.due("never told", logs.field(0, 8), -2);
        DUE.due("spring", logs.count(5), 8);
        DUE.due("has", logs.field(0, 0), 16);
        SluiceLogs empty = new SluiceLogs();
        DUE.due("hold", empty.hold(1), true);
        empty.spring(2);
        DUE.due("restore", empty.restore(1), true);
        DUE.due("spring", empty.count(5), 8);
    }

    private static void keepsWhatIsTold() {
        SluiceLogs logs = DUE.of(TEXT);
        logs.hold(0);
        logs.tell(0, 1, true);
        Due.type(logs, "log c;");
        logs.step(0, true);
        logs.restore(0);
        DUE.due("told", logs.count(10), 1);
        DUE.due("tape", logs.count(8), 6);
        logs.step(0, true);
        logs.undo();
        DUE.due("told", logs.count(10), 1);
        DUE.due("tape", logs.count(8), 6);
    }
}
