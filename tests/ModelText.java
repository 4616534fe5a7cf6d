import java.util.ArrayList;
import java.util.HashMap;
import java.util.List;
import java.util.Map;
import java.util.regex.Matcher;
import java.util.regex.Pattern;

/** The document's TEXT, read in another way than SluiceLogs does: TOKENS by a pattern, LAWS as trees. */
final class ModelText {
    static final Pattern TOKEN = Pattern.compile("[a-z]+|[0-9]+|[;=+\\-*/<()]|[^\\t\\n\\r ]", Pattern.DOTALL);
    static final List<String> VARS = List.of("flow", "area", "wide", "grown", "day", "which", "store", "logs", "fields");
    static final List<String> WORDS = List.of("log", "field", "notch", "drain", "spring", "needs", "worth", "costs",
            "silts", "seed", "river", "if", "then", "else", "flow", "area", "wide", "grown", "day", "which", "store",
            "logs", "fields");

    interface Tree {
        int value(Map<String, Integer> vars);
    }

    record Clause(Tree one, Tree other, Tree then) { }

    record Law(List<Clause> clauses, Tree otherwise) {
        int value(Map<String, Integer> vars) {
            try {
                for (Clause clause : clauses) {
                    if (clause.one.value(vars) < clause.other.value(vars)) {
                        return clause.then.value(vars);
                    }
                }
                return otherwise.value(vars);
            } catch (ArithmeticException divided) {
                return 0;
            }
        }
    }

    record Notch(int log, int to) { }

    @SuppressWarnings("serial")
    static final class Fault extends RuntimeException {
        final int number;
        final int place;

        Fault(int number, int place) {
            this.number = number;
            this.place = place;
        }
    }

    final List<String> logs = new ArrayList<>();
    final List<String> fields = new ArrayList<>();
    final List<Integer> areas = new ArrayList<>();
    final List<Notch> notches = new ArrayList<>();
    final List<Integer> widths = new ArrayList<>();
    final Map<Integer, int[]> drains = new HashMap<>();
    final Map<String, Law> laws = new HashMap<>();
    int spring = 8;
    int seed = 0;
    int fault = 0;
    int place = -1;

    private final List<String> tokens = new ArrayList<>();
    private final List<Integer> places = new ArrayList<>();
    private int at = 0;
    private int laterFault = 0;
    private int laterPlace = -1;

    ModelText() {
        this("");
    }

    ModelText(String text) {
        Matcher matcher = TOKEN.matcher(text);
        while (matcher.find()) {
            tokens.add(matcher.group());
            places.add(matcher.start());
        }
        places.add(text.length());
        laws.put("needs", new Law(List.of(), vars -> vars.get("area")));
        laws.put("worth", new Law(List.of(), vars -> vars.get("flow")));
        laws.put("costs", new Law(List.of(), vars -> 1));
        laws.put("silts", new Law(List.of(), vars -> 0));
        try {
            while (at < tokens.size()) {
                tell();
            }
            fault = laterFault;
            place = laterPlace;
        } catch (Fault found) {
            fault = found.number;
            place = found.place;
        }
    }

    private String look() {
        return at < tokens.size() ? tokens.get(at) : "";
    }

    private boolean isName() {
        return look().matches("[a-z]{1,8}") && !WORDS.contains(look());
    }

    private boolean isInt() {
        return look().matches("[0-9]{1,4}");
    }

    private String next(boolean goesOn) {
        if (!goesOn) {
            throw new Fault(1, places.get(at));
        }
        room(at < 400);
        return tokens.get(at++);
    }

    private void room(boolean there) {
        if (!there) {
            throw new Fault(2, places.get(at));
        }
    }

    private String sign(String sign) {
        return next(look().equals(sign));
    }

    private void later(boolean good, int number, int token) {
        if (!good && laterFault == 0) {
            laterFault = number;
            laterPlace = places.get(token);
        }
    }

    private int number(int least, int most) {
        int number = Integer.parseInt(next(isInt()));
        later(number >= least && number <= most, 5, at - 1);
        return number;
    }

    private void tell() {
        switch (look()) {
            case "log" -> {
                room(logs.size() < 4);
                sign("log");
                logs.add(newName());
            }
            case "field" -> {
                room(fields.size() < 6);
                sign("field");
                fields.add(newName());
                areas.add(number(1, 99));
            }
            case "notch" -> notch();
            case "drain" -> drain();
            case "spring" -> {
                sign("spring");
                spring = number(1, 9);
            }
            case "seed" -> {
                sign("seed");
                seed = number(0, 9999);
            }
            case "needs", "worth", "costs", "silts" -> {
                String which = next(true);
                sign("=");
                laws.put(which, law());
            }
            default -> next(false);
        }
        sign(";");
    }

    private String newName() {
        String name = next(isName());
        later(!logs.contains(name) && !fields.contains(name), 3, at - 1);
        return name;
    }

    private void notch() {
        room(notches.size() < 12);
        sign("notch");
        int log = logs.indexOf(next(isName()));
        later(log >= 0, 4, at - 1);
        later(log < 0 || notches.stream().filter(n -> n.log == log).count() < 3, 6, at - 1);
        int to = 20;
        if (look().equals("river")) {
            next(true);
        } else {
            String name = next(isName());
            later(logs.contains(name) || fields.contains(name), 4, at - 1);
            to = logs.contains(name) ? logs.indexOf(name) : 10 + fields.indexOf(name);
        }
        notches.add(new Notch(log, to));
        widths.add(number(0, 3));
    }

    private void drain() {
        sign("drain");
        int field = fields.indexOf(next(isName()));
        later(field >= 0, 4, at - 1);
        int log = logs.indexOf(next(isName()));
        later(log >= 0, 4, at - 1);
        drains.put(field, new int[] {log, number(0, 3)});
    }

    private Law law() {
        List<Clause> clauses = new ArrayList<>();
        while (look().equals("if")) {
            room(clauses.size() < 4);
            sign("if");
            Tree one = sum(0);
            sign("<");
            Tree other = sum(0);
            sign("then");
            Tree then = sum(0);
            sign("else");
            clauses.add(new Clause(one, other, then));
        }
        return new Law(clauses, sum(0));
    }

    private Tree sum(int depth) {
        Tree tree = part(depth);
        while (look().equals("+") || look().equals("-")) {
            Tree one = tree;
            boolean plus = next(true).equals("+");
            Tree other = part(depth);
            tree = plus ? v -> one.value(v) + other.value(v) : v -> one.value(v) - other.value(v);
        }
        return tree;
    }

    private Tree part(int depth) {
        Tree tree = unit(depth);
        while (look().equals("*") || look().equals("/")) {
            Tree one = tree;
            boolean times = next(true).equals("*");
            Tree other = unit(depth);
            tree = times ? v -> one.value(v) * other.value(v) : v -> one.value(v) / other.value(v);
        }
        return tree;
    }

    private Tree unit(int depth) {
        if (isInt()) {
            int number = number(0, 9999);
            return v -> number;
        }
        if (VARS.contains(look())) {
            String name = next(true);
            return v -> v.get(name);
        }
        if (look().equals("(")) {
            room(depth < 6);
        }
        sign("(");
        Tree tree = sum(depth + 1);
        sign(")");
        return tree;
    }
}
