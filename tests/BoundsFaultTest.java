import java.util.List;

/** Promise 4: the FAULTS of a text from ROOM on, each on both sides of where it begins. */
final class BoundsFaultTest {
    private static final Bounds BOUNDS = new Bounds();
    private static final String ROOM = "2 ROOM: a 401st TOKEN; one more of a sort than told (at its first TOKEN); "
            + "a 5th if of a LAW (at it); a 7th ( within one another (at it).";
    private static final String FIRST = "FAULTS of a text, the first by its place (a byte; the text's end: its length), of one place the least";
    private static final String NAME = "4 NAME: (at it) no such LOG, no such FIELD (DRAIN's first), no such LOG or FIELD (TO) told ahead";
    private static final String WRONG = "5 WRONG (at the INT): a number not as told above.";
    private static final String FULL = "6 FULL (at the NOTCH's LOG): a 4th NOTCH of it.";
    private static final List<String> LAWS = List.of("needs", "worth", "costs", "silts");

    public static void main(String[] args) {
        firstByItsPlace();
        ofOnePlaceTheLeast();
        a401stToken();
        aTellAtTheLastToken();
        oneMoreLog();
        oneMoreField();
        oneMoreNotch();
        noMoreOfOthers();
        a5thIf();
        a7thOpening();
        ifThereIsNone();
        twice();
        noSuchLog();
        noSuchFieldOfADrain();
        noSuchTo();
        toldAhead();
        wrongAreas();
        wrongWidths();
        wrongQuarters();
        wrongSprings();
        noWrongSeeds();
        full();
        BOUNDS.end();
    }

    private static void firstByItsPlace() {
        BOUNDS.sentence(4, FIRST);
        BOUNDS.fault("log a; = log", 1, 7);
        BOUNDS.fault("log a; log b; log c; log d; log e; =", 2, 28);
        BOUNDS.fault("log a; = log b; log c; log d; log e; log f;", 1, 7);
        BOUNDS.fault("field f 0; field g 100;", 5, 8);
        BOUNDS.fault("field f 1; field g 100;", 5, 19);
        BOUNDS.fault("field f 0; field f 1;", 5, 8);
        BOUNDS.fault("field f 1; field f 0;", 3, 17);
        BOUNDS.fault("log a; notch b c 4;", 4, 13);
        BOUNDS.fault("log a; notch a c 4;", 4, 15);
        BOUNDS.fault("log a; notch a a 4;", 5, 17);
        BOUNDS.fault("drain f a 4;", 4, 6);
        BOUNDS.fault("field f 1; drain f a 4;", 4, 19);
        BOUNDS.fault("log a; field f 1; drain f a 4;", 5, 28);
    }

    private static void ofOnePlaceTheLeast() {
        BOUNDS.sentence(4, FIRST);
        String full = "needs = 1;" + "seed 1;".repeat(132);
        int end = full.length();
        BOUNDS.fault(full + "seed", 2, end);
        for (String other : List.of("=", "1", "a", "river", "if", "!", "abcdefghi", "12345", "(")) {
            BOUNDS.fault(full + other, 1, end);
        }
        String law = "seed 1;".repeat(130) + "needs = 1 + 1 + 1 + 1 +";
        BOUNDS.fault(law + " 1;", 2, law.length() + 1);
        BOUNDS.fault(law + " ;", 1, law.length() + 1);
        // a 13th NOTCH is one too many and its LOG full; but they are not of one place
        BOUNDS.fault("log a; " + "notch a a 1; ".repeat(13), 2, 7 + 12 * 13);
    }

    private static void a401stToken() {
        BOUNDS.sentence(4, ROOM);
        String full = "needs = 1;" + "seed 1;".repeat(132);
        BOUNDS.good(full);
        BOUNDS.fault(full + "\nseed 1;", 2, full.length() + 1);
        BOUNDS.fault(full + "log", 2, full.length());
        BOUNDS.good("seed 1;".repeat(133));
        BOUNDS.fault("seed 1;".repeat(133) + "seed", 1, 7 * 133 + 4);
        BOUNDS.fault("seed 1;".repeat(133) + "seed 1", 2, 7 * 133 + 5);
        String sum = "needs = 1" + "+1".repeat(198);
        BOUNDS.good(sum + ";");
        BOUNDS.fault(sum + "+", 1, sum.length() + 1);
        BOUNDS.fault(sum + "+1;", 2, sum.length() + 1);
        BOUNDS.fault(sum, 1, sum.length());
        String more = "needs = 1" + " + 1".repeat(197) + " + (";
        BOUNDS.fault(more + "1);", 2, more.length() + 1);
    }

    /** So many TOKENS that tell nothing more than a LOG a and a FIELD f. */
    private static String tokens(int many) {
        int more = many - 7;
        int fours = more % 3;
        return "log a; field f 1; " + "costs = 1; ".repeat(fours) + "seed 1; ".repeat((more - 4 * fours) / 3);
    }

    private static void aTellAtTheLastToken() {
        BOUNDS.sentence(4, ROOM);
        for (String tell : List.of("log b ;", "field g 2 ;", "notch a f 2 ;", "notch a river 2 ;", "drain f a 1 ;",
                "spring 3 ;", "seed 4 ;", "worth = if 1 * 2 < ( 3 ) then flow / 4 else 5 + 6 - day ;")) {
            String[] of = tell.split(" ");
            String last = tokens(400 - of.length);
            BOUNDS.good(last + tell);
            for (int i = 0; i < of.length; i++) {
                String filled = tokens(400 - i) + String.join(" ", List.of(of).subList(0, i)) + " ";
                BOUNDS.fault(filled + of[i], 2, filled.length());
                BOUNDS.fault(filled + "log =", i == 0 ? 2 : 1, filled.length());
            }
        }
    }

    private static void oneMoreLog() {
        BOUNDS.sentence(4, ROOM);
        String logs = "log a; log b; log c; log d; ";
        BOUNDS.is("LOGS", BOUNDS.of(logs).count(0), 4);
        for (String more : List.of("log e;", "log e", "log", "log a;", "log =", "log e; =")) {
            BOUNDS.fault(logs + more, 2, logs.length());
        }
        BOUNDS.fault("field f 1; " + logs + "seed 1; log e;", 2, 11 + logs.length() + 8);
        BOUNDS.good(logs + "field f 1;");
    }

    private static void oneMoreField() {
        BOUNDS.sentence(4, ROOM);
        String fields = "field a 1; field b 1; field c 1; field d 1; field e 1; field f 1; ";
        BOUNDS.is("FIELDS", BOUNDS.of(fields).count(1), 6);
        for (String more : List.of("field g 1;", "field g", "field", "field a 100;", "field =", "field g 1; =")) {
            BOUNDS.fault(fields + more, 2, fields.length());
        }
        BOUNDS.good(fields + "log g; log h; log i; log j;");
    }

    private static String notches(int many) {
        StringBuilder text = new StringBuilder("log a; log b; log c; log d; ");
        for (int i = 0; i < many; i++) {
            text.append("notch ").append((char) ('a' + i / 3 % 4)).append(" river 1; ");
        }
        return text.toString();
    }

    private static void oneMoreNotch() {
        BOUNDS.sentence(4, ROOM);
        String twelve = notches(12);
        BOUNDS.is("NOTCHES", BOUNDS.of(twelve).count(2), 12);
        BOUNDS.is("the last NOTCH", BOUNDS.of(twelve).notch(11, 0), 3);
        for (String more : List.of("notch d river 1;", "notch", "notch e e 4;", "notch =", "notch d river 1; =")) {
            BOUNDS.fault(twelve + more, 2, twelve.length());
        }
        String wrong = "notch x river 1; ".repeat(12);
        BOUNDS.fault(wrong, 4, 6);
        BOUNDS.fault(wrong + "notch x river 1;", 2, wrong.length());
    }

    private static void noMoreOfOthers() {
        BOUNDS.sentence(4, "one more of a sort than told (at its first TOKEN)");
        BOUNDS.good("log a; field f 1; " + "drain f a 1; ".repeat(70));
        BOUNDS.good("spring 1; ".repeat(100) + "seed 1; ".repeat(30));
        for (String law : LAWS) {
            BOUNDS.good((law + " = 1; ").repeat(100));
        }
    }

    private static void a5thIf() {
        BOUNDS.sentence(4, ROOM);
        String clause = "if 1 < 2 then 3 else ";
        for (String law : LAWS) {
            String four = law + " = " + clause.repeat(4);
            BOUNDS.good(four + "5;");
            BOUNDS.fault(four + clause + "5;", 2, four.length());
            BOUNDS.fault(four + "if", 2, four.length());
            BOUNDS.fault(four + "else", 1, four.length());
            BOUNDS.good(four + "5; " + four + "6; needs = " + clause + "7;");
        }
    }

    private static void a7thOpening() {
        BOUNDS.sentence(4, ROOM);
        String six = "((((((1))))))";
        for (String law : LAWS) {
            String start = law + " = ";
            BOUNDS.good(start + six + ";");
            BOUNDS.fault(start + "(" + six + ");", 2, start.length() + 6);
            BOUNDS.fault(start + "(((((((", 2, start.length() + 6);
            BOUNDS.fault(start + "((((((", 1, start.length() + 6);
            BOUNDS.good(start + six + "+" + six + "*" + six + ";");
            BOUNDS.good(start + "(((((1)/((1))))));");
            BOUNDS.fault(start + "(((((1)/(((1)))))));", 2, start.length() + 10);
        }
        String start = "needs = 1 + (2 * (3 - (4 / (5 + (6 * (7 - ";
        BOUNDS.good(start + "8))))));");
        BOUNDS.fault(start + "(8)))))));", 2, start.length());
        for (String ahead : List.of("if ", "if 1 < ", "if 1 < 2 then ", "if 1 < 2 then 3 else ", "if 1 < 2 then 3 else if ")) {
            String law = "needs = " + ahead;
            BOUNDS.fault(law + "(" + six, 2, law.length() + 6);
            BOUNDS.fault(law + six, 1, law.length() + six.length());
        }
        BOUNDS.good("needs = if " + six + " < " + six + " then " + six + " else " + six + ";");
    }

    private static void ifThereIsNone() {
        BOUNDS.sentence(4, "If there is none, likewise: 3 TWICE: a NAME told already (of LOGS and FIELDS together).");
        String fives = "log f; log f; notch x f 1; spring 0; notch f f 1; notch f f 1; notch f f 1; notch f f 1; ";
        BOUNDS.fault(fives, 3, 11);
        BOUNDS.fault(fives + "=", 1, fives.length());
        BOUNDS.fault(fives + "log", 1, fives.length() + 3);
        BOUNDS.fault(fives + "log g; log h; log i;", 2, fives.length() + 14);
        BOUNDS.fault(fives + "needs = (((((((1)))))));", 2, fives.length() + 14);
        BOUNDS.fault(fives.substring(14), 4, 6);
        BOUNDS.fault("log f; " + fives.substring(27), 5, 14);
        BOUNDS.fault("log f; " + fives.substring(37), 6, 7 + 3 * 13 + 6);
    }

    private static void twice() {
        BOUNDS.sentence(4, "3 TWICE: a NAME told already (of LOGS and FIELDS together).");
        BOUNDS.good("log a; log b; field c 1; field d 1;");
        BOUNDS.fault("log a; log a;", 3, 11);
        BOUNDS.fault("log a; log b; log a;", 3, 18);
        BOUNDS.fault("log a; log b; log b;", 3, 18);
        BOUNDS.fault("log a; field a 1;", 3, 13);
        BOUNDS.fault("field a 1; log a;", 3, 15);
        BOUNDS.fault("field a 1; field a 1;", 3, 17);
        BOUNDS.fault("field a 1; field b 1; field c 1; field d 1; field e 1; field e 1;", 3, 61);
        BOUNDS.fault("field a 1; field b 1; field c 1; field d 1; field e 1; field a 1;", 3, 61);
        BOUNDS.fault("field a 1; field b 1; field c 1; field d 1; field e 1; log e;", 3, 59);
        BOUNDS.fault("log a; log b; log c; log c;", 3, 25);
        BOUNDS.good("log a; log aa; field aaa 1; field b 1;");
    }

    private static void noSuchLog() {
        BOUNDS.sentence(4, NAME);
        BOUNDS.good("log a; log b; notch b river 1;");
        BOUNDS.fault("log a; log b; notch c river 1;", 4, 20);
        BOUNDS.fault("notch a river 1;", 4, 6);
        BOUNDS.fault("field f 1; notch f river 1;", 4, 17);
        BOUNDS.fault("log a; field f 1; drain f f 1;", 4, 26);
        BOUNDS.fault("log a; field f 1; drain f b 1;", 4, 26);
        BOUNDS.good("log a; field f 1; drain f a 1;");
    }

    private static void noSuchFieldOfADrain() {
        BOUNDS.sentence(4, NAME);
        BOUNDS.fault("log a; field f 1; drain g a 1;", 4, 24);
        BOUNDS.fault("log a; field f 1; drain a a 1;", 4, 24);
        BOUNDS.fault("log a; drain a a 1;", 4, 13);
        BOUNDS.fault("log a; field f 1; drain g b 4;", 4, 24);
    }

    private static void noSuchTo() {
        BOUNDS.sentence(4, NAME);
        BOUNDS.good("log a; field f 1; notch a a 1; notch a f 1; notch a river 1;");
        BOUNDS.fault("log a; field f 1; notch a b 1;", 4, 26);
        BOUNDS.fault("log a; field f 1; notch a rivers 1;", 4, 26);
        BOUNDS.fault("notch b b 1;", 4, 6);
    }

    private static void toldAhead() {
        BOUNDS.sentence(4, NAME);
        BOUNDS.good("log a; log b; notch a b 1;");
        BOUNDS.fault("log a; notch a b 1; log b;", 4, 15);
        BOUNDS.fault("log b; notch a b 1; log a;", 4, 13);
        BOUNDS.fault("log a; notch a f 1; field f 1;", 4, 15);
        BOUNDS.fault("log a; drain f a 1; field f 1;", 4, 13);
        BOUNDS.fault("field f 1; drain f a 1; log a;", 4, 19);
        // a NAME of the text ahead of this one is none of this text
        SluiceLogs logs = BOUNDS.of("log a;");
        Due.type(logs, "log b; notch b a 1;");
        BOUNDS.is("read", logs.read(), 4);
        BOUNDS.is("place", logs.place(), 15);
    }

    private static void wrong(String ahead, String number, boolean good, String behind) {
        BOUNDS.fault(ahead + number + behind, good ? 0 : 5, good ? -1 : ahead.length());
    }

    private static void wrongAreas() {
        BOUNDS.sentence(4, WRONG);
        for (int area : new int[] {0, 1, 2, 98, 99, 100, 101, 999, 1000, 9999}) {
            wrong("field f ", "" + area, area >= 1 && area <= 99, ";");
        }
        wrong("field f ", "0000", false, ";");
        wrong("field f ", "0099", true, ";");
        wrong("field f ", "0100", false, ";");
    }

    private static void wrongWidths() {
        BOUNDS.sentence(4, WRONG);
        for (int width : new int[] {0, 1, 2, 3, 4, 5, 10, 100, 9999}) {
            wrong("log a; notch a river ", "" + width, width <= 3, ";");
            wrong("log a; notch a a ", "" + width, width <= 3, ";");
        }
    }

    private static void wrongQuarters() {
        BOUNDS.sentence(4, WRONG);
        for (int quarters : new int[] {0, 1, 2, 3, 4, 5, 10, 100, 9999}) {
            wrong("log a; field f 1; drain f a ", "" + quarters, quarters <= 3, "; drain f a 1;");
        }
    }

    private static void wrongSprings() {
        BOUNDS.sentence(4, WRONG);
        for (int spring : new int[] {0, 1, 2, 8, 9, 10, 11, 99, 9999}) {
            wrong("spring ", "" + spring, spring >= 1 && spring <= 9, "; spring 1;");
        }
    }

    private static void noWrongSeeds() {
        BOUNDS.sentence(4, WRONG);
        for (int seed : new int[] {0, 1, 9, 10, 100, 9998, 9999}) {
            wrong("seed ", "" + seed, true, ";");
            wrong("needs = ", "" + seed, true, ";");
        }
        BOUNDS.fault("seed 10000;", 1, 5);
    }

    private static void full() {
        BOUNDS.sentence(4, FULL);
        String three = "log a; log b; notch a b 0; notch a river 1; notch a a 3; ";
        BOUNDS.is("NOTCHES", BOUNDS.of(three).count(2), 3);
        BOUNDS.fault(three + "notch a b 1;", 6, three.length() + 6);
        BOUNDS.fault(three + "notch a x 9;", 6, three.length() + 6);
        String six = three + "notch b a 1; notch b a 1; notch b a 1; ";
        BOUNDS.is("NOTCHES", BOUNDS.of(six).count(2), 6);
        BOUNDS.fault(six + "notch b a 1;", 6, six.length() + 6);
        BOUNDS.fault(six + "notch a a 1; notch b a 1;", 6, six.length() + 6);
        BOUNDS.fault("log a; log b; " + "notch a b 1; notch b a 1; ".repeat(4), 6, 14 + 26 * 3 + 6);
    }
}
