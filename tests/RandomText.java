import java.util.ArrayList;
import java.util.List;
import java.util.Random;

/** Texts by a seed: good ones, and ones with a few things wrong. */
final class RandomText {
    private static final String[] NAMES = {"a", "b", "top", "low", "rice", "sedge", "x", "abcdefgh", "m", "mid"};
    private static final String[] PIECES = {"log", "field", "notch", "drain", "spring", "needs", "worth", "costs",
        "silts", "seed", "river", "if", "then", "else", "flow", "area", "wide", "grown", "day", "which", "store", "logs",
        "fields", ";", "=", "+", "-", "*", "/", "<", "(", ")", "a", "top", "rice", "0", "1", "4", "10", "100", "9999",
        "00003", "toolongname", ".", "A", "\u00e9", "\t", "\r\n", "#", "\u0000"};
    private final Random random;

    RandomText(Random random) {
        this.random = random;
    }

    private int from(int least, int most) {
        return least + random.nextInt(most - least + 1);
    }

    private String pick(List<String> of) {
        return of.get(random.nextInt(of.size()));
    }

    List<String> goodTokens() {
        List<String> out = new ArrayList<>();
        List<String> names = new ArrayList<>(List.of(NAMES));
        List<String> logs = new ArrayList<>();
        List<String> fields = new ArrayList<>();
        int logsMany = random.nextInt(12) == 0 ? 0 : from(1, 4);
        int fieldsMany = random.nextInt(12) == 0 ? 0 : from(1, 6);
        for (int i = 0; i < logsMany; i++) {
            logs.add(names.remove(random.nextInt(names.size())));
            add(out, "log", logs.get(i), ";");
        }
        for (int i = 0; i < fieldsMany; i++) {
            fields.add(names.remove(random.nextInt(names.size())));
            add(out, "field", fields.get(i), "" + (random.nextBoolean() ? from(1, 20) : from(1, 99)), ";");
        }
        for (int i = 0; i < logsMany; i++) {
            for (int many = from(0, 3); many > 0; many--) {
                int to = random.nextInt(10);
                String where = to == 0 || to < 6 && fields.isEmpty() ? "river" : to < 6 ? pick(fields) : pick(logs);
                add(out, "notch", pick(logs.subList(i, i + 1)), where, "" + from(0, 3), ";");
            }
        }
        for (String field : fields) {
            if (logsMany > 0 && random.nextInt(2) == 0) {
                add(out, "drain", field, pick(logs), "" + from(0, 3), ";");
            }
        }
        if (random.nextBoolean()) {
            add(out, "spring", "" + from(1, 9), ";");
        }
        if (random.nextBoolean()) {
            add(out, "seed", "" + from(0, 9999), ";");
        }
        for (String law : new String[] {"needs", "worth", "costs", "silts"}) {
            if (random.nextInt(3) > 0) {
                add(out, law, "=");
                law(out, law);
                add(out, ";");
            }
        }
        return out;
    }

    private static void add(List<String> to, String... tokens) {
        to.addAll(List.of(tokens));
    }

    private void law(List<String> out, String which) {
        for (int ifs = random.nextInt(9) == 0 ? 4 : random.nextInt(3); ifs > 0; ifs--) {
            add(out, "if");
            sum(out, 0);
            add(out, "<");
            sum(out, 0);
            add(out, "then");
            sum(out, 0);
            add(out, "else");
        }
        if (which.equals("silts") && random.nextBoolean()) {
            add(out, "" + from(0, 30), "+", "which");
        } else if (which.equals("needs") && random.nextBoolean()) {
            add(out, "area", "*", "" + from(1, 9), "-", "day");
        } else {
            sum(out, 0);
        }
    }

    private void sum(List<String> out, int depth) {
        unit(out, depth);
        for (int more = random.nextInt(3); more > 0; more--) {
            add(out, new String[] {"+", "-", "*", "/"}[random.nextInt(4)]);
            unit(out, depth);
        }
    }

    private void unit(List<String> out, int depth) {
        int kind = random.nextInt(7);
        if (kind == 0 && depth < 6) {
            add(out, "(");
            sum(out, depth + 1);
            add(out, ")");
        } else if (kind < 4) {
            add(out, ModelText.VARS.get(random.nextInt(9)));
        } else {
            add(out, "" + (random.nextInt(4) == 0 ? from(0, 9999) : from(0, 9)));
        }
    }

    /** A good text, its TELLS in disorder, or some of its names and numbers others. */
    List<String> disorderedTokens() {
        List<List<String>> tells = new ArrayList<>(List.of(new ArrayList<>()));
        for (String token : goodTokens()) {
            tells.get(tells.size() - 1).add(token);
            if (token.equals(";")) {
                tells.add(new ArrayList<>());
            }
        }
        for (int wrongs = from(1, 2); wrongs > 0; wrongs--) {
            int at = random.nextInt(tells.size());
            int to = random.nextInt(tells.size());
            int how = random.nextInt(4);
            if (how == 0) {
                tells.add(to, tells.remove(at));
            } else if (how == 1) {
                for (int more = from(1, 4); more > 0; more--) {
                    tells.add(at, new ArrayList<>(tells.get(at)));
                }
            } else if (!tells.get(at).isEmpty()) {
                List<String> tell = tells.get(at);
                int token = random.nextInt(tell.size());
                if (Character.isDigit(tell.get(token).charAt(0))) {
                    tell.set(token, "" + (random.nextBoolean() ? from(0, 11) : from(90, 120)));
                } else if (!ModelText.WORDS.contains(tell.get(token)) && tell.get(token).matches("[a-z]+")) {
                    tell.set(token, NAMES[random.nextInt(NAMES.length)]);
                }
            }
        }
        List<String> tokens = new ArrayList<>();
        for (List<String> tell : tells) {
            tokens.addAll(tell);
        }
        return tokens;
    }

    /** A good text's TOKENS, some of them gone, put in or changed. */
    List<String> spoiltTokens() {
        if (random.nextInt(3) > 0) {
            return disorderedTokens();
        }
        List<String> tokens = goodTokens();
        for (int wrongs = from(1, 3); wrongs > 0; wrongs--) {
            int at = random.nextInt(tokens.size() + 1);
            int how = random.nextInt(5);
            if (how == 0 && at < tokens.size()) {
                tokens.remove(at);
            } else if (how == 1) {
                tokens.add(at, PIECES[random.nextInt(PIECES.length)]);
            } else if (how == 2 && at < tokens.size()) {
                tokens.set(at, PIECES[random.nextInt(PIECES.length)]);
            } else if (how == 3 && at < tokens.size()) {
                tokens.addAll(new ArrayList<>(tokens.subList(at, Math.min(tokens.size(), at + from(1, 40)))));
            } else if (how == 4) {
                tokens.subList(at, tokens.size()).clear();
            }
        }
        return tokens;
    }

    /** At most 2,000 bytes, however many TOKENS there are. */
    String join(List<String> tokens) {
        StringBuilder text = new StringBuilder();
        boolean close = random.nextInt(4) == 0;
        for (String token : tokens) {
            boolean blank = !close || !text.isEmpty() && isWordy(text.charAt(text.length() - 1)) && isWordy(token.charAt(0));
            text.append(blank ? new String[] {" ", "\n", "\t", "\r", "  "}[random.nextInt(8) > 0 ? 0 : from(0, 4)] : "");
            text.append(token);
        }
        if (random.nextInt(3) == 0) {
            text.append(' ');
        }
        text.setLength(Math.min(2000, text.length()));
        return text.toString();
    }

    private static boolean isWordy(char sign) {
        return sign >= 'a' && sign <= 'z' || sign >= '0' && sign <= '9';
    }
}
