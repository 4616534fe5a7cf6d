import java.util.ArrayList;
import java.util.List;

/** Promise 4: what a TOKEN is, sign by sign, and where each TOKEN may stand. */
final class BoundsTokenTest {
    private static final Bounds BOUNDS = new Bounds();
    private static final String TOKENS = "TOKENS, the longest that can be, with blanks (9, 10, 13, 32) between or not";
    private static final String NAMES = "NAMES (letters a .. z, 8 at most, none of the words in quotes)";
    private static final String SYNTAX = "1 SYNTAX: a TOKEN, or what is none, with which no text goes on.";

    public static void main(String[] args) {
        blanks();
        orNot();
        theLongestThatCanBe();
        lettersOfNames();
        lengthsOfNames();
        namesAreToldApart();
        wordsAreNoNames();
        ints();
        digits();
        signs();
        noTokens();
        whereEachTokenMayStand();
        theEnd();
        BOUNDS.end();
    }

    private static boolean isBlank(int sign) {
        return sign == 9 || sign == 10 || sign == 13 || sign == 32;
    }

    private static boolean isLetter(int sign) {
        return sign >= 97 && sign <= 122;
    }

    private static boolean isDigit(int sign) {
        return sign >= 48 && sign <= 57;
    }

    private static void blanks() {
        BOUNDS.sentence(4, TOKENS);
        for (int sign = 0; sign <= 255; sign++) {
            String one = String.valueOf((char) sign);
            String between = "log" + one + "a;";
            if (isBlank(sign)) {
                BOUNDS.good(between);
                BOUNDS.good(one + "log a;" + one + one + "log b" + one + ";" + one);
            } else {
                BOUNDS.fault(between, 1, isLetter(sign) ? 0 : 3);
                BOUNDS.fault("log a; " + one, 1, 7);
            }
        }
    }

    private static void orNot() {
        BOUNDS.sentence(4, TOKENS);
        BOUNDS.good("log a;field f12;notch a f3;notch a river0;drain f a2;spring9;seed5;"
                + "needs=if(flow)<area*3then 1else 2+4;");
        BOUNDS.is("AREA behind a NAME", BOUNDS.of("field f12;").field(0, 3), 12);
        BOUNDS.is("the same with blanks", BOUNDS.of("\tfield\rf\n12 ;\r\n").field(0, 3), 12);
        BOUNDS.fault("fieldf 1;", 1, 0);
        BOUNDS.fault("field f1 2;", 1, 9);
    }

    private static void theLongestThatCanBe() {
        BOUNDS.sentence(4, TOKENS);
        BOUNDS.good("log lo;");
        BOUNDS.fault("log log;", 1, 4);
        BOUNDS.fault("logs;", 1, 0);
        BOUNDS.fault("loga;", 1, 0);
        BOUNDS.good("log loga;");
        BOUNDS.fault("log fields;", 1, 4);
        BOUNDS.good("log fieldsx;");
        BOUNDS.is("12 is not 1 and 2", BOUNDS.of("field f 12;").field(0, 3), 12);
        BOUNDS.fault("field f 1 2;", 1, 10);
        BOUNDS.fault("needs = 12 34;", 1, 11);
        BOUNDS.is("1234", BOUNDS.of("field f 1; needs = 1234;").field(0, 4), 1234);
        BOUNDS.fault("needs = 12345;", 1, 8);
        BOUNDS.fault("log abcdefghij;", 1, 4);
        BOUNDS.is("two logs, a and ab", BOUNDS.of("log a; log ab; notch ab river 2;").notch(0, 0), 1);
    }

    private static void lettersOfNames() {
        BOUNDS.sentence(4, NAMES);
        for (int sign = 0; sign <= 255; sign++) {
            String text = "log " + (char) sign + ";";
            if (isLetter(sign)) {
                BOUNDS.good(text);
                BOUNDS.good("log " + String.valueOf((char) sign).repeat(8) + ";");
            } else {
                BOUNDS.fault(text, 1, isBlank(sign) ? 5 : 4);
                BOUNDS.fault("log a" + (char) sign + "b;", 1, isBlank(sign) || sign == ';' ? 6 : 5);
            }
        }
    }

    private static void lengthsOfNames() {
        BOUNDS.sentence(4, NAMES);
        BOUNDS.fault("log ;", 1, 4);
        for (int length = 1; length <= 12; length++) {
            BOUNDS.fault("log " + "abcdefghijkl".substring(0, length) + ";", length <= 8 ? 0 : 1, length <= 8 ? -1 : 4);
        }
        BOUNDS.fault("field abcdefghi 1;", 1, 6);
        BOUNDS.fault("log a; notch a abcdefghi 1;", 1, 15);
        String names = "log abcdefgh; log abcdefgi; log bbcdefgh; log abcdefg; ";
        BOUNDS.is("told apart by each letter and by the length", BOUNDS.of(names).count(0), 4);
        SluiceLogs notches = BOUNDS.of(names + "notch abcdefgi bbcdefgh 1; notch abcdefg abcdefgh 2;");
        BOUNDS.is("the LOG by its 8th letter", notches.notch(0, 0), 1);
        BOUNDS.is("to the LOG by its 1st letter", notches.notch(0, 1), 2);
        BOUNDS.is("the LOG by its length", notches.notch(1, 0), 3);
        BOUNDS.is("to the first LOG", notches.notch(1, 1), 0);
    }

    private static void namesAreToldApart() {
        BOUNDS.sentence(4, NAMES);
        List<String> names = new ArrayList<>();
        for (String one : List.of("", "a", "b", "c", "y", "z")) {
            for (String other : List.of("a", "b", "c", "y", "z")) {
                names.add(one + other);
                names.add(one + one + one + other + one);
            }
        }
        names.removeIf(name -> names.indexOf(name) != names.lastIndexOf(name));
        for (String one : names) {
            for (String other : names) {
                BOUNDS.fault("log " + one + "; field " + other + " 1;", one.equals(other) ? 3 : 0,
                        one.equals(other) ? one.length() + 12 : -1);
            }
        }
    }

    private static void wordsAreNoNames() {
        BOUNDS.sentence(4, NAMES);
        for (String word : ModelText.WORDS) {
            BOUNDS.fault("log " + word + ";", 1, 4);
            BOUNDS.fault("field " + word + " 1;", 1, 6);
            BOUNDS.fault("log a; notch " + word + " river 1;", 1, 13);
            for (String almost : List.of(word + "x", "x" + word, word.substring(1), word.substring(0, word.length() - 1))) {
                if (!ModelText.WORDS.contains(almost)) {
                    BOUNDS.good("log " + almost + ";");
                }
            }
        }
    }

    private static void ints() {
        BOUNDS.sentence(4, "INTS (1 to 4 digits)");
        BOUNDS.fault("seed ;", 1, 5);
        for (String good : List.of("0", "9", "00", "42", "000", "999", "0000", "0001", "9999")) {
            BOUNDS.good("seed " + good + ";");
            BOUNDS.good("needs = " + good + ";");
        }
        for (String wrong : List.of("00000", "00001", "10000", "99999", "123456", "1".repeat(30))) {
            BOUNDS.fault("seed " + wrong + ";", 1, 5);
            BOUNDS.fault("needs = " + wrong + ";", 1, 8);
            BOUNDS.fault("field f " + wrong + ";", 1, 8);
        }
        BOUNDS.is("an AREA of 4 digits", BOUNDS.of("field f 0007;").field(0, 3), 7);
    }

    private static void digits() {
        BOUNDS.sentence(4, "INTS (1 to 4 digits)");
        for (int sign = 0; sign <= 255; sign++) {
            String text = "seed " + (char) sign + ";";
            BOUNDS.fault(text, isDigit(sign) ? 0 : 1, isDigit(sign) ? -1 : isBlank(sign) ? 6 : 5);
        }
        for (int digit = 0; digit <= 9; digit++) {
            BOUNDS.is("each digit", BOUNDS.of("field f 1; needs = 1" + digit + "02;").field(0, 4), 1002 + 100 * digit);
        }
    }

    private static void signs() {
        BOUNDS.sentence(4, "SIGNS ; = + - * / < ( ) .");
        BOUNDS.good("needs = if 1 < 2 then 3 + 4 - 5 * 6 / 7 else ( 8 );");
        for (int sign = 0; sign <= 255; sign++) {
            String text = "needs = 1 " + (char) sign + " 2;";
            boolean joins = "+-*/".indexOf(sign) >= 0;
            boolean goesOn = isBlank(sign) || sign == ';';
            BOUNDS.fault(text, joins ? 0 : 1, joins ? -1 : goesOn ? 12 : 10);
        }
    }

    private static void noTokens() {
        BOUNDS.sentence(4, "A longer one, all else, is no TOKEN.");
        BOUNDS.fault("log abcdefgh;", 0, -1);
        BOUNDS.fault("log abcdefghi;", 1, 4);
        BOUNDS.fault("  abcdefghi", 1, 2);
        BOUNDS.fault("a".repeat(2000), 1, 0);
        BOUNDS.fault("field f " + "1".repeat(1992), 1, 8);
        BOUNDS.fault("seed 1234;", 0, -1);
        BOUNDS.fault("seed 12345;", 1, 5);
        for (String other : List.of(".", ",", ">", "_", "'", "\"", "A", "Z", "`", "{", "\u00e9", "\u00ff", "\u0000", "\u000b")) {
            BOUNDS.fault(other, 1, 0);
            BOUNDS.fault("log a" + other + ";", 1, 5);
            BOUNDS.fault("log a; " + other, 1, 7);
            BOUNDS.fault("needs = 1" + other + ";", 1, 9);
        }
    }

    /** What may stand in each place of a TELL whose TOKENS are parted by blanks: a word, a sign, NAME, INT or VAR. */
    private static void places(String told, String tell, String... may) {
        String[] tokens = tell.split(" ");
        BOUNDS.is("places told of " + tell, may.length, tokens.length);
        for (int i = 0; i < tokens.length; i++) {
            String ahead = told + String.join(" ", List.of(tokens).subList(0, i)) + " ";
            for (String other : others(List.of(may[i].split(" ")))) {
                BOUNDS.fault(ahead + other + " ; ;", 1, ahead.length());
                BOUNDS.fault(ahead + other, 1, ahead.length());
            }
            if (i > 0) {
                BOUNDS.fault(ahead, 1, ahead.length());
            }
        }
        BOUNDS.good(told + tell);
    }

    private static List<String> others(List<String> may) {
        List<String> others = new ArrayList<>(List.of(";", "=", "+", "-", "*", "/", "<", "(", ")"));
        others.addAll(ModelText.WORDS);
        others.removeAll(may);
        if (may.contains("VAR")) {
            others.removeAll(ModelText.VARS);
        }
        if (!may.contains("NAME")) {
            others.addAll(List.of("a", "zebra", "abcdefgh"));
        }
        if (!may.contains("INT")) {
            others.addAll(List.of("0", "1", "9999"));
        }
        others.addAll(List.of("!", "abcdefghi", "12345", "\u00e9"));
        return others;
    }

    private static void whereEachTokenMayStand() {
        BOUNDS.sentence(4, SYNTAX);
        String told = "log a; field f 1; ";
        String tells = "log field notch drain spring needs worth costs silts seed";
        String unit = "INT VAR (";
        String behind = "+ - * /";
        places(told, "log b ;", tells, "NAME", ";");
        places(told, "field g 2 ;", tells, "NAME", "INT", ";");
        places(told, "notch a f 2 ;", tells, "NAME", "NAME river", "INT", ";");
        places(told, "notch a river 2 ;", tells, "NAME", "NAME river", "INT", ";");
        places(told, "drain f a 1 ;", tells, "NAME", "NAME", "INT", ";");
        places(told, "spring 3 ;", tells, "INT", ";");
        places(told, "seed 4 ;", tells, "INT", ";");
        for (String law : List.of("needs", "worth", "costs", "silts")) {
            places(told, law + " = 1 ;", tells, "=", unit + " if", behind + " ;");
        }
        places(told, "needs = if 1 < 2 then 3 else 4 ;", tells, "=", unit + " if", unit, behind + " <", unit,
                behind + " then", unit, behind + " else", unit + " if", behind + " ;");
        places(told, "needs = if 1 < 2 then 3 else if 4 < 5 then 6 else 7 ;", tells, "=", unit + " if", unit,
                behind + " <", unit, behind + " then", unit, behind + " else", unit + " if", unit, behind + " <", unit,
                behind + " then", unit, behind + " else", unit + " if", behind + " ;");
        places(told, "worth = ( 1 + ( day - 2 ) * 3 ) / 4 ;", tells, "=", unit + " if", unit, behind + " )", unit, unit,
                behind + " )", unit, behind + " )", behind + " )", unit, behind + " )", behind + " ;", unit, behind + " ;");
    }

    private static void theEnd() {
        BOUNDS.sentence(4, "the first by its place (a byte; the text's end: its length)");
        BOUNDS.fault("log", 1, 3);
        BOUNDS.fault("log ", 1, 4);
        BOUNDS.fault("log a", 1, 5);
        BOUNDS.fault("log a \n\t", 1, 8);
        BOUNDS.fault("log a;", 0, -1);
        BOUNDS.fault("log a; log b", 1, 12);
        BOUNDS.fault("log a; !", 1, 7);
        BOUNDS.fault("! log", 1, 0);
        BOUNDS.good("");
        BOUNDS.good("\t\n\r ");
    }
}
