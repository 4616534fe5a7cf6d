/** Promises 4 and 5: what a text may be, its FAULTS and their places. */
final class FaultTest {
    private static final Due DUE = new Due();

    public static void main(String[] args) {
        tokens();
        syntax();
        eachPlace();
        laws();
        roomOfSorts();
        roomOfLaws();
        roomOfTokens();
        twiceAndNames();
        wrongAndFull();
        whichIsFirst();
        whatAFaultLeaves();
        whatATextReplaces();
        DUE.end();
    }

    private static void good(String text) {
        DUE.fault(text, 0, -1);
    }

    private static void tokens() {
        good("");
        good(" \t\r\n");
        DUE.fault("\f", 1, 0);
        DUE.fault("log a\u00a0;", 1, 5);
        DUE.fault("log a;\u0000", 1, 6);
        good("log abcdefgh;");
        DUE.fault("log abcdefghi;", 1, 4);
        DUE.fault("logabcdef a;", 1, 0);
        DUE.fault("log A;", 1, 4);
        DUE.fault("log \u00e9;", 1, 4);
        DUE.fault("log a.;", 1, 5);
        DUE.fault("log a_b;", 1, 5);
        good("log a;field b5;notch a b3;notch a river0;drain b a2;needs=if(flow)<area*3then 1else 2;");
        good("log\ra\n;\tfield f\n1;");
        good("field f 0001;");
        DUE.fault("field f 00001;", 1, 8);
        DUE.fault("field f 12345;", 1, 8);
        good("log loga; log rivers; log ifs; field spri 3;");
        good("log mog; log xiver; log zzzz; field azaz 1; field zaza 1; field aazz 1; field zzzzzzz 1;");
        good("log ab; log ba; log b; log abb; field bb 1; field aa 1; field a 1; field aaa 1; field aab 1;");
        DUE.fault("loga;", 1, 0);
        for (String word : ModelText.WORDS) {
            DUE.fault("log " + word + ";", 1, 4);
        }
    }

    private static void syntax() {
        DUE.fault(";", 1, 0);
        DUE.fault("log", 1, 3);
        DUE.fault("log ", 1, 4);
        DUE.fault("  log a", 1, 7);
        DUE.fault("log 5;", 1, 4);
        DUE.fault("log a 5;", 1, 6);
        DUE.fault("log a; ;", 1, 7);
        DUE.fault("field f;", 1, 7);
        DUE.fault("field f g 1;", 1, 8);
        DUE.fault("field f 1 2;", 1, 10);
        DUE.fault("field river 1;", 1, 6);
        DUE.fault("log a; notch a 1;", 1, 15);
        DUE.fault("log a; notch river a 1;", 1, 13);
        DUE.fault("log a; notch a river;", 1, 20);
        DUE.fault("log a; field f 1; drain f river 1;", 1, 26);
        DUE.fault("log a; field f 1; drain f a;", 1, 27);
        DUE.fault("spring;", 1, 6);
        DUE.fault("spring x;", 1, 7);
        DUE.fault("seed = 1;", 1, 5);
        DUE.fault("which = 1;", 1, 0);
        DUE.fault("spring -1;", 1, 7);
    }

    /** Each TOKEN of each TELL once in the 401st place, once another one, once the text's end. */
    private static void eachPlace() {
        String told = "log a; field f 1; ";
        for (String tell : new String[] {"log b ;", "field g 2 ;", "notch a f 2 ;", "notch a river 2 ;", "drain f a 1 ;",
            "spring 3 ;", "seed 4 ;", "worth = if 1 * 2 < ( 3 ) then flow / 4 else 5 + 6 ;"}) {
            String[] tokens = tell.split(" ");
            for (int i = 0; i < tokens.length; i++) {
                String ahead = String.join(" ", java.util.Arrays.copyOf(tokens, i));
                String behind = String.join(" ", java.util.Arrays.copyOfRange(tokens, i, tokens.length));
                int tokensOfSeeds = 400 - 7 - i;
                int fours = tokensOfSeeds % 3;
                String full = told + "costs = 1;".repeat(fours) + "seed 1;".repeat((tokensOfSeeds - 4 * fours) / 3);
                DUE.fault(full + ahead + " " + behind, 2, full.length() + ahead.length() + 1);
                DUE.fault(told + ahead + " = log", 1,
                        told.length() + ahead.length() + (tokens[i].equals("=") ? 3 : 1));
                if (i > 0) {
                    DUE.fault(told + ahead, 1, told.length() + ahead.length());
                }
            }
        }
    }

    private static void laws() {
        good("needs = flow + area - wide * grown / day + which - store + logs + fields;");
        good("costs = ((1)); silts = (1 + 2) * (3 - 4) / (5);");
        good("worth = if 1 < 2 then 3 else if (4) < 5 * 6 then 7 else 8;");
        DUE.fault("needs 1;", 1, 6);
        DUE.fault("needs = ;", 1, 8);
        DUE.fault("needs = 1", 1, 9);
        DUE.fault("needs = 1 2;", 1, 10);
        DUE.fault("needs = -1;", 1, 8);
        DUE.fault("needs = 1 + ;", 1, 12);
        DUE.fault("needs = 1 + * 2;", 1, 12);
        DUE.fault("needs = 1 < 2;", 1, 10);
        DUE.fault("needs = (1;", 1, 10);
        DUE.fault("needs = (1", 1, 10);
        DUE.fault("needs = 1);", 1, 9);
        DUE.fault("needs = ();", 1, 9);
        DUE.fault("needs = (1 < 2);", 1, 11);
        DUE.fault("needs = a;", 1, 8);
        DUE.fault("needs = river;", 1, 8);
        DUE.fault("needs = log;", 1, 8);
        DUE.fault("needs = 1 = 2;", 1, 10);
        DUE.fault("needs = if 1 then 2 else 3;", 1, 13);
        DUE.fault("needs = if 1 < 2 else 3;", 1, 17);
        DUE.fault("needs = if 1 < 2 < 3 then 4 else 5;", 1, 17);
        DUE.fault("needs = if 1 < 2 then 3;", 1, 23);
        DUE.fault("needs = if 1 < 2 then if 3 < 4 then 5 else 6 else 7;", 1, 22);
        DUE.fault("needs = (if 1 < 2 then 3 else 4);", 1, 9);
        DUE.fault("needs = 1 then 2;", 1, 10);
        DUE.fault("needs = if 1 < 2 then 3 else;", 1, 28);
    }

    private static void roomOfSorts() {
        good("log a; log b; log c; log d;");
        DUE.fault("log a; log b; log c; log d; log e;", 2, 28);
        DUE.fault("log a; log b; log c; log d; log", 2, 28);
        String fields = "field a 1; field b 1; field c 1; field d 1; field e 1; field f 1;";
        good(fields);
        DUE.fault(fields + "field g 1;", 2, 65);
        String notches = "";
        for (String log : new String[] {"a", "b", "c", "d"}) {
            notches += "notch " + log + " river 1;" + ("notch " + log + " a 0;").repeat(2);
        }
        String logs = "log a; log b; log c; log d;";
        good(logs + notches);
        DUE.fault(logs + notches + " notch d river 1;", 2, logs.length() + notches.length() + 1);
        good("log a; field f 1;" + "drain f a 1; ".repeat(20) + "spring 1; spring 2;".repeat(9));
        good("needs = 1; needs = 2; needs = 3; needs = 4; needs = 5; needs = 6;");
        // the ROOM of NOTCHES, though a LOG is FULL long ahead of it
        DUE.fault("log a; " + "notch a a 1; ".repeat(13), 2, 7 + 13 * 12);
        DUE.fault("log a; " + "notch a a 1; ".repeat(12), 6, 7 + 13 * 3 + 6);
        DUE.fault("log a; log a; log a; log a; log a;", 2, 28);
    }

    private static void roomOfLaws() {
        String clause = "if 1 < 2 then 3 else ";
        good("needs = " + clause.repeat(4) + "4;");
        DUE.fault("needs = " + clause.repeat(5) + "4;", 2, 8 + 21 * 4);
        DUE.fault("needs = " + clause.repeat(4) + "if", 2, 8 + 21 * 4);
        good("needs = " + clause.repeat(4) + "4; worth = " + clause.repeat(4) + "4; needs = " + clause.repeat(4) + "4;");
        good("needs = ((((((1))))));");
        DUE.fault("needs = (((((((1)))))));", 2, 14);
        DUE.fault("needs = (((((((", 2, 14);
        DUE.fault("needs = ((((((", 1, 14);
        good("needs = (1)+(1)+(1)+(1)+(1)+(1)+(1)+((1))+((((((1))))));");
        good("needs = if ((((((1)))))) < ((((((1)))))) then ((((((1)))))) else ((((((1))))));");
        good("needs = 1-2*(3-4*(5-6*(7-8*(9-1*(2-3*(4-5*6))))));");
        DUE.fault("needs = 1-2*(3-4*(5-6*(7-8*(9-1*(2-3*(4-5*(6)))))));", 2, 42);
    }

    private static void roomOfTokens() {
        String full = "needs = 1;" + "seed 1;".repeat(132);
        good(full);
        DUE.fault(full + " seed 1;", 2, full.length() + 1);
        DUE.fault(full + " seed", 2, full.length() + 1);
        DUE.fault(full + " 7", 1, full.length() + 1);
        DUE.fault(full + " toolongname", 1, full.length() + 1);
        DUE.fault(full + " ! seed 1;", 1, full.length() + 1);
        String most = full.substring(0, full.length() - 1);
        DUE.fault(most, 1, most.length());
        DUE.fault(most + " 5 ;", 1, most.length() + 1);
        String law = "needs = 1" + "+1".repeat(198);
        good(law + ";");
        DUE.fault(law + "+1;", 2, law.length() + 1);
        DUE.fault(law + "+(;", 2, law.length() + 1);
        DUE.fault("seed 1;".repeat(133) + "seed;", 1, 7 * 133 + 4);
        DUE.fault("seed 1;".repeat(133) + "seed 1;", 2, 7 * 133 + 5);
        DUE.fault("(".repeat(2000), 1, 0);
        DUE.fault("a".repeat(2000), 1, 0);
        DUE.fault(" ".repeat(1999) + "1", 1, 1999);
        good(" ".repeat(1994) + "log a;");
        DUE.fault(" ".repeat(1995) + "log a", 1, 2000);
    }

    private static void twiceAndNames() {
        DUE.fault("log a; log a;", 3, 11);
        DUE.fault("log a; field a 3;", 3, 13);
        DUE.fault("field a 3; log a;", 3, 15);
        DUE.fault("field a 3; field a 3;", 3, 17);
        DUE.fault("field a 0; field a 3;", 5, 8);
        DUE.fault("log a; field a 0;", 3, 13);
        DUE.fault("log a; log a; notch b b 7;", 3, 11);
        DUE.fault("notch a river 1;", 4, 6);
        DUE.fault("notch a river 1; log a;", 4, 6);
        DUE.fault("log a; notch a b 1;", 4, 15);
        DUE.fault("log a; notch a b 9; log b;", 4, 15);
        good("log a; notch a a 1;");
        DUE.fault("field f 1; notch f river 1;", 4, 17);
        DUE.fault("log a; drain a a 1;", 4, 13);
        DUE.fault("field f 1; drain f f 1;", 4, 19);
        DUE.fault("field f 1; drain f a 1; log a;", 4, 19);
        DUE.fault("drain f f 9;", 4, 6);
        DUE.fault("log abcdefga; notch abcdefgb river 1;", 4, 20);
        DUE.fault("log ab; notch a river 1;", 4, 14);
    }

    private static void wrongAndFull() {
        good("field f 1;");
        good("field f 99;");
        DUE.fault("field f 0;", 5, 8);
        DUE.fault("field f 100;", 5, 8);
        good("log a; notch a river 0; notch a river 3;");
        DUE.fault("log a; notch a river 4;", 5, 21);
        good("log a; field f 1; drain f a 0; drain f a 3;");
        DUE.fault("log a; field f 1; drain f a 4;", 5, 28);
        good("spring 1; spring 9;");
        DUE.fault("spring 0;", 5, 7);
        DUE.fault("spring 10;", 5, 7);
        good("seed 0; seed 9999;");
        good("needs = 9999;");
        String three = "log a; log b; notch a b 1; notch a b 1; notch a b 1;";
        good(three + " notch b a 1;");
        DUE.fault(three + " notch b a 1; notch a b 1;", 6, three.length() + 20);
        DUE.fault(three + " notch a c 9;", 6, three.length() + 7);
    }

    private static void whichIsFirst() {
        DUE.fault("field f 0; log", 1, 14);
        DUE.fault("field f 0; log a; log b; log c; log d; log e;", 2, 39);
        DUE.fault("field f 0; spring 0;", 5, 8);
        DUE.fault("log a; notch a b 4;", 4, 15);
        DUE.fault("log a; log b; log c; log d; log e; ;", 2, 28);
        DUE.fault("; log a; log b; log c; log d; log e;", 1, 0);
    }

    private static void whatAFaultLeaves() {
        SluiceLogs logs = DUE.of("log a; field f 9; notch a f 1; notch a river 1;");
        logs.step(0, true);
        logs.days(2);
        logs.hold(1);
        logs.tell(0, 1, true);
        Due.type(logs, "log b");
        DUE.due("count 8", logs.count(8), 5);
        DUE.due("read", logs.read(), 1);
        DUE.due("place", logs.place(), 5);
        DUE.due("count 8", logs.count(8), 0);
        DUE.due("count 1", logs.count(1), 1);
        DUE.due("count 3", logs.count(3), 2);
        DUE.due("count 4", logs.count(4), 1);
        DUE.due("count 9", logs.count(9), 2);
        DUE.due("count 10", logs.count(10), 1);
        DUE.due("count 11", logs.count(11), 1);
        DUE.due("width", logs.notch(0, 2), 2);
        DUE.due("back", logs.back(1), -1);
        DUE.due("place", logs.place(), 5);
        DUE.due("undo", logs.undo(), true);
    }

    private static void whatATextReplaces() {
        SluiceLogs logs = DUE.of("log a; log b; field f 9; notch a f 1; drain f b 2; spring 3; seed 77;"
                + "needs = 5; worth = 3; costs = 7; silts = 100;");
        logs.step(0, true);
        logs.days(1);
        logs.hold(0);
        logs.tell(0, 1, true);
        Due.type(logs, "log b");
        logs.read();
        Due.type(logs, "log c; field g 8; notch c g 2; notch c river 2;");
        DUE.due("read", logs.read(), 0);
        DUE.due("place", logs.place(), -1);
        int[] counts = {1, 1, 2, 0, 0, 8, 0, 400, 0, 0, 0, 0, 0, 15};
        for (int what = 0; what < counts.length; what++) {
            DUE.due("count " + what, logs.count(what), counts[what]);
        }
        DUE.due("restore", logs.restore(0), false);
        DUE.due("needs", logs.field(0, 4), 8);
        DUE.due("worth", logs.field(0, 5), 99);
        DUE.due("quarters", logs.field(0, 7), 0);
        DUE.due("drain", logs.field(0, 8), -2);
        DUE.due("costs", logs.notch(0, 3), 1);
        DUE.due("silts", logs.notch(0, 4), 0);
        DUE.due("read", logs.read(), 0);
        DUE.due("count 0", logs.count(0), 0);
    }
}
