import java.util.ArrayDeque;
import java.util.ArrayList;
import java.util.Arrays;
import java.util.Deque;
import java.util.HashMap;
import java.util.List;
import java.util.Map;
import java.util.TreeSet;

/** The document once more, in the plainest way and with the whole library, to hold SluiceLogs against. */
final class Model {
    static final int RIVER = 20;

    /** What goes on; copied whole for all that would be. */
    final class Life {
        int[] wide = text.widths.stream().mapToInt(i -> i).toArray();
        int[] drainLog = new int[text.fields.size()];
        int[] quarters = new int[text.fields.size()];
        int[] grown = new int[text.fields.size()];
        int spring = text.spring;
        int day = 0;
        int paid = 0;

        Life() {
            for (int f = 0; f < drainLog.length; f++) {
                int[] drain = text.drains.getOrDefault(f, new int[] {-2, 0});
                drainLog[f] = drain[0];
                quarters[f] = drain[1];
            }
        }

        Life copy() {
            Life other = new Life();
            other.wide = wide.clone();
            other.drainLog = drainLog.clone();
            other.quarters = quarters.clone();
            other.grown = grown.clone();
            other.spring = spring;
            other.day = day;
            other.paid = paid;
            return other;
        }

        boolean can(int step) {
            return step >= 0 && step / 2 < wide.length && (step % 2 == 1 ? wide[step / 2] < 3 : wide[step / 2] > 0);
        }

        Life by(int step) {
            Life other = copy();
            other.wide[step / 2] += step % 2 == 1 ? 1 : -1;
            return other;
        }

        Map<String, Integer> fieldVars(int f, Has has) {
            int wides = 0;
            for (int n = 0; n < wide.length; n++) {
                wides += text.notches.get(n).to() == 10 + f ? wide[n] : 0;
            }
            return vars(has.flow(f), text.areas.get(f), wides, grown[f], f, quarters[f]);
        }

        Map<String, Integer> notchVars(int n) {
            return vars(0, 0, wide[n], 0, n, 0);
        }

        private Map<String, Integer> vars(int flow, int area, int wides, int grew, int which, int store) {
            Map<String, Integer> vars = new HashMap<>();
            vars.put("flow", flow);
            vars.put("area", area);
            vars.put("wide", wides);
            vars.put("grown", grew);
            vars.put("day", day);
            vars.put("which", which);
            vars.put("store", store);
            vars.put("logs", text.logs.size());
            vars.put("fields", text.fields.size());
            return vars;
        }

        int needs(int f, Has has) {
            return held(text.laws.get("needs").value(fieldVars(f, has)), 9999);
        }

        int worth(int f, Has has) {
            return held(text.laws.get("worth").value(fieldVars(f, has)), 99);
        }

        int costs(int n) {
            return held(text.laws.get("costs").value(notchVars(n)), 99);
        }

        int silts(int n) {
            return held(text.laws.get("silts").value(notchVars(n)), 100);
        }

        int lacking() {
            Has has = new Has(this);
            int bits = 0;
            for (int f = 0; f < grown.length; f++) {
                bits |= has.flow(f) < needs(f, has) ? 1 << f : 0;
            }
            return bits;
        }

        Life in(int days, int seed, boolean silt) {
            Life life = this;
            for (int i = 0; i < days; i++) {
                Life next = life.copy();
                Has has = new Has(life);
                for (int f = 0; f < grown.length; f++) {
                    next.grown[f] = Math.min(9999, life.grown[f] + life.worth(f, has));
                }
                for (int n = 0; n < wide.length; n++) {
                    if (silt && lot(100, seed, 16 * life.day + n) < life.silts(n) && life.wide[n] > 0) {
                        next.wide[n]--;
                    }
                }
                next.day++;
                life = next;
            }
            return life;
        }
    }

    /** What all have in a Life: LOGS, then FIELDS, solved for as one whole. */
    final class Has {
        final boolean flood;
        final Ratio[] of = new Ratio[text.logs.size() + text.fields.size()];
        private final int logs = text.logs.size();
        private final int[] quarters;

        Has(Life life) {
            quarters = life.quarters;
            int all = of.length;
            Ratio[][] share = new Ratio[all][all + 1];
            for (Ratio[] row : share) {
                Arrays.fill(row, Ratio.ZERO);
            }
            for (int n = 0; n < life.wide.length; n++) {
                ModelText.Notch notch = text.notches.get(n);
                int to = notch.to() == RIVER ? all : notch.to() >= 10 ? logs + notch.to() - 10 : notch.to();
                Ratio part = life.wide[n] == 0 ? Ratio.ZERO : Ratio.of(life.wide[n]).by(Ratio.of(widths(life, notch.log())));
                share[notch.log()][to] = share[notch.log()][to].plus(part);
            }
            for (int log = 0; log < logs; log++) {
                if (widths(life, log) == 0) {
                    share[log][all] = Ratio.of(1);
                }
            }
            for (int f = 0; f < life.grown.length; f++) {
                if (life.quarters[f] > 0) {
                    share[logs + f][life.drainLog[f]] = Ratio.of(life.quarters[f]).by(Ratio.of(4));
                }
            }
            TreeSet<Integer> wet = logs == 0 ? new TreeSet<>() : from(0, share);
            boolean closed = false;
            for (int log = 0; log < logs; log++) {
                closed |= wet.contains(log) && from(log, share).last() < logs;
            }
            flood = closed;
            Arrays.fill(of, Ratio.ZERO);
            if (!flood && logs > 0) {
                solve(new ArrayList<>(wet.headSet(all)), share, life.spring);
            }
            Ratio lost = logs == 0 ? Ratio.of(life.spring) : Ratio.ZERO;
            for (int log = 0; log < logs; log++) {
                lost = lost.plus(of[log].times(share[log][all]));
            }
            river = lost;
        }

        final Ratio river;

        private int widths(Life life, int log) {
            int sum = 0;
            for (int n = 0; n < life.wide.length; n++) {
                sum += text.notches.get(n).log() == log ? life.wide[n] : 0;
            }
            return sum;
        }

        private TreeSet<Integer> from(int start, Ratio[][] share) {
            TreeSet<Integer> seen = new TreeSet<>(List.of(start));
            Deque<Integer> open = new ArrayDeque<>(seen);
            while (!open.isEmpty()) {
                int at = open.pop();
                for (int to = 0; at < of.length && to <= of.length; to++) {
                    if (!share[at][to].isZero() && seen.add(to)) {
                        open.push(to);
                    }
                }
            }
            return seen;
        }

        private void solve(List<Integer> wet, Ratio[][] share, int spring) {
            int size = wet.size();
            Ratio[][] rows = new Ratio[size][size + 1];
            for (int i = 0; i < size; i++) {
                for (int j = 0; j < size; j++) {
                    rows[i][j] = Ratio.of(i == j ? 1 : 0).minus(share[wet.get(j)][wet.get(i)]);
                }
                rows[i][size] = Ratio.of(wet.get(i) == 0 ? spring : 0);
            }
            for (int p = 0; p < size; p++) {
                int head = p;
                while (rows[head][p].isZero()) {
                    head++;
                }
                Ratio[] row = rows[head];
                rows[head] = rows[p];
                rows[p] = row;
                for (int i = 0; i < size; i++) {
                    if (i != p) {
                        Ratio factor = rows[i][p].by(row[p]);
                        for (int j = 0; j <= size; j++) {
                            rows[i][j] = rows[i][j].minus(factor.times(row[j]));
                        }
                    }
                }
            }
            for (int i = 0; i < size; i++) {
                of[wet.get(i)] = rows[i][size].by(rows[i][i]);
            }
        }

        Ratio field(int f) {
            return of[logs + f];
        }

        int flow(int f) {
            return flood ? 0 : field(f).hundredfold();
        }

        Ratio drained() {
            Ratio sum = Ratio.ZERO;
            for (int f = 0; f < quarters.length; f++) {
                sum = sum.plus(field(f).times(Ratio.of(quarters[f])).by(Ratio.of(4)));
            }
            return sum;
        }

        Ratio kept() {
            Ratio sum = Ratio.ZERO;
            for (int f = 0; f < quarters.length; f++) {
                sum = sum.plus(field(f));
            }
            return sum.minus(drained());
        }

        int over(Ratio ratio) {
            return flood ? 0 : ratio.over().intValueExact();
        }

        int under(Ratio ratio) {
            return flood ? 0 : ratio.under().intValueExact();
        }
    }

    record Told(int field, int feels, boolean so) { }

    private ModelText text = new ModelText();
    private Life life = new Life();
    private final Deque<Life> past = new ArrayDeque<>();
    private final Life[] slots = new Life[3];
    private final List<Told> told = new ArrayList<>();
    private final StringBuilder tape = new StringBuilder();
    private int place = -1;

    static int held(int value, int most) {
        return value < 0 ? 0 : value > most ? most : value;
    }

    static int lot(int n, int seed, int which) {
        int h = seed;
        for (int it : new int[] {217, which}) {
            h = (h ^ it) * 1103515245 + 12345;
            h ^= h >>> 15;
        }
        return (h >>> 1) % n;
    }

    int feed(int a, int b, int c, int d, int e) {
        if (tape.length() > 1980) {
            return -1;
        }
        for (int four : new int[] {a, b, c, d, e}) {
            tape.append((char) (four >>> 24)).append((char) (four >>> 16 & 255))
                    .append((char) (four >>> 8 & 255)).append((char) (four & 255));
        }
        return tape.length();
    }

    int back(int n) {
        if (n < 0 || n > tape.length()) {
            return -1;
        }
        tape.setLength(tape.length() - n);
        return tape.length();
    }

    int read() {
        ModelText next = new ModelText(tape.toString());
        tape.setLength(0);
        place = next.place;
        if (next.fault == 0) {
            text = next;
            life = new Life();
            past.clear();
            told.clear();
            Arrays.fill(slots, null);
        }
        return next.fault;
    }

    int place() {
        return place;
    }

    private boolean isLog(int log) {
        return log >= 0 && log < text.logs.size();
    }

    private boolean isField(int f) {
        return f >= 0 && f < text.fields.size();
    }

    private boolean isNotch(int n) {
        return n >= 0 && n < text.notches.size();
    }

    int log(int log, int what) {
        if (!isLog(log) || what < 0 || what > 3) {
            return -1;
        }
        Has has = new Has(life);
        int wide = 0;
        int bits = 0;
        for (int n = 0; n < text.notches.size(); n++) {
            if (text.notches.get(n).log() == log) {
                wide += life.wide[n];
                bits += 1 << n;
            }
        }
        return new int[] {has.over(has.of[log]), has.under(has.of[log]), wide, bits}[what];
    }

    int field(int f, int what) {
        if (!isField(f) || what < 0 || what > 9) {
            return -1;
        }
        Has has = new Has(life);
        return new int[] {has.over(has.field(f)), has.under(has.field(f)), has.flow(f), text.areas.get(f),
            life.needs(f, has), life.worth(f, has), life.grown[f], life.quarters[f], life.drainLog[f],
            life.fieldVars(f, has).get("wide")}[what];
    }

    int notch(int n, int what) {
        if (!isNotch(n) || what < 0 || what > 4) {
            return -1;
        }
        return new int[] {text.notches.get(n).log(), text.notches.get(n).to(), life.wide[n], life.costs(n),
            life.silts(n)}[what];
    }

    private static int number(int notch, boolean cut) {
        return 2 * notch + (cut ? 1 : 0);
    }

    private void does(Life next) {
        past.push(life);
        if (past.size() > 40) {
            past.removeLast();
        }
        life = next;
    }

    int step(int n, boolean cut) {
        if (!isNotch(n) || !life.can(number(n, cut))) {
            return -1;
        }
        int costs = life.costs(n);
        does(life.by(number(n, cut)));
        life.paid += costs;
        return costs;
    }

    boolean drain(int f, int log, int quarters) {
        if (!isField(f) || !isLog(log) || quarters < 0 || quarters > 3
                || life.drainLog[f] == log && life.quarters[f] == quarters) {
            return false;
        }
        does(life.copy());
        life.drainLog[f] = log;
        life.quarters[f] = quarters;
        return true;
    }

    boolean spring(int spring) {
        if (spring < 1 || spring > 9 || spring == life.spring) {
            return false;
        }
        does(life.copy());
        life.spring = spring;
        return true;
    }

    int days(int n) {
        if (n < 0 || n > 60) {
            return -1;
        }
        if (n > 0) {
            does(life.in(n, text.seed, true));
        }
        return life.day;
    }

    boolean undo() {
        if (past.isEmpty()) {
            return false;
        }
        life = past.pop();
        return true;
    }

    int river(int what) {
        if (what < 0 || what > 3) {
            return -1;
        }
        Has has = new Has(life);
        Ratio ratio = what < 2 ? has.river : has.kept();
        return what % 2 == 0 ? has.over(ratio) : has.under(ratio);
    }

    int round() {
        Has has = new Has(life);
        return has.flood ? 0 : has.drained().hundredfold();
    }

    int lacking() {
        return life.lacking();
    }

    int dry() {
        Has has = new Has(life);
        int bits = 0;
        for (int f = 0; f < text.fields.size(); f++) {
            bits |= !has.flood && has.field(f).isZero() ? 1 << f : 0;
        }
        return bits;
    }

    int feels(int n, boolean cut, int f) {
        if (!isNotch(n) || !isField(f) || !life.can(number(n, cut))) {
            return -1;
        }
        return feels(number(n, cut), f);
    }

    private int feels(int step, int f) {
        Has before = new Has(life);
        Has behind = new Has(life.by(step));
        if (before.flood || behind.flood) {
            return 0;
        }
        return (behind.field(f).compareTo(before.field(f)) + 3) % 3;
    }

    private List<Integer> steps() {
        List<Integer> steps = new ArrayList<>();
        for (int step = 0; step < 2 * text.notches.size(); step++) {
            if (life.can(step)) {
                steps.add(step);
            }
        }
        return steps;
    }

    int unfelt() {
        int bits = 0;
        for (int step : steps()) {
            boolean felt = false;
            for (int f = 0; f < text.fields.size(); f++) {
                felt |= feels(step, f) != 0;
            }
            bits |= felt ? 0 : 1 << step;
        }
        return bits;
    }

    int best(int f, int what) {
        if (!isField(f) || what < 0 || what > 1) {
            return -1;
        }
        int best = -2;
        for (int step : steps()) {
            if (feels(step, f) == 1 && (best == -2
                    || new Has(life.by(step)).field(f).compareTo(new Has(life.by(best)).field(f)) > 0)) {
                best = step;
            }
        }
        return what == 0 || best == -2 ? best : new Has(life.by(best)).flow(f);
    }

    int tempted() {
        int bits = 0;
        for (int f = 0; f < text.fields.size(); f++) {
            for (int step : steps()) {
                for (int n = 0; n < text.notches.size(); n++) {
                    ModelText.Notch notch = text.notches.get(n);
                    if (notch.to() == 10 + f && life.wide[n] > 0
                            && text.notches.get(step / 2).log() == notch.log() && feels(step, f) == 1) {
                        bits |= 1 << f;
                    }
                }
            }
        }
        return bits;
    }

    int mend(int i) {
        if (i < -1) {
            return -1;
        }
        for (int many = 0; many <= 3; many++) {
            List<Integer> found = mend(life, many, 0);
            if (found != null) {
                return i == -1 ? many : i < many ? found.get(i) : -1;
            }
        }
        return -2;
    }

    private List<Integer> mend(Life from, int many, int least) {
        if (many == 0) {
            return new Has(from).flood || from.lacking() != 0 ? null : new ArrayList<>();
        }
        for (int step = least; step < 2 * text.notches.size(); step++) {
            List<Integer> rest = from.can(step) ? mend(from.by(step), many - 1, step) : null;
            if (rest != null) {
                rest.add(0, step);
                return rest;
            }
        }
        return null;
    }

    int feeds(int f) {
        if (!isField(f)) {
            return -1;
        }
        TreeSet<Integer> logs = new TreeSet<>();
        TreeSet<Integer> fields = new TreeSet<>();
        pour(f, logs, fields);
        return fields.stream().mapToInt(g -> 1 << g).sum();
    }

    private void pour(int f, TreeSet<Integer> logs, TreeSet<Integer> fields) {
        if (life.quarters[f] > 0) {
            pourLog(life.drainLog[f], logs, fields);
        }
    }

    private void pourLog(int log, TreeSet<Integer> logs, TreeSet<Integer> fields) {
        if (!logs.add(log)) {
            return;
        }
        for (int n = 0; n < text.notches.size(); n++) {
            ModelText.Notch notch = text.notches.get(n);
            if (notch.log() == log && life.wide[n] > 0 && notch.to() < 10) {
                pourLog(notch.to(), logs, fields);
            } else if (notch.log() == log && life.wide[n] > 0 && notch.to() < RIVER && fields.add(notch.to() - 10)) {
                pour(notch.to() - 10, logs, fields);
            }
        }
    }

    int hangs(int f) {
        if (!isField(f)) {
            return -1;
        }
        Has has = new Has(life);
        int bits = 0;
        for (int n = 0; n < text.notches.size(); n++) {
            Life without = life.copy();
            without.wide[n] = 0;
            Has then = new Has(without);
            bits |= !has.flood && !has.field(f).isZero() && !then.flood && then.field(f).isZero() ? 1 << n : 0;
        }
        return bits;
    }

    private int[] flows() {
        Has has = new Has(life);
        int[] flows = new int[text.fields.size()];
        for (int f = 0; f < flows.length; f++) {
            flows[f] = has.flow(f);
        }
        return flows;
    }

    int spread() {
        return Arrays.stream(flows()).max().orElse(0) - Arrays.stream(flows()).min().orElse(0);
    }

    int richest() {
        Has has = new Has(life);
        int richest = -2;
        for (int f = text.fields.size() - 1; f >= 0 && !has.flood; f--) {
            if (richest == -2 || has.field(f).compareTo(has.field(richest)) >= 0) {
                richest = f;
            }
        }
        return richest;
    }

    int crop(int n) {
        if (n < 0 || n > 60) {
            return -1;
        }
        return Arrays.stream(life.in(n, 0, false).grown).sum() - Arrays.stream(life.grown).sum();
    }

    int again(int f, int quarters) {
        if (!isField(f) || quarters < 0 || quarters > 3 || text.logs.isEmpty()) {
            return -1;
        }
        Life other = life.copy();
        other.quarters[f] = quarters;
        other.drainLog[f] = Math.max(0, other.drainLog[f]);
        return new Has(other).flow(f);
    }

    int swap() {
        int fewest = Integer.bitCount(life.lacking());
        int best = -2;
        for (int n = 0; n < text.notches.size(); n++) {
            for (int m = n + 1; m < text.notches.size(); m++) {
                Life other = life.copy();
                other.wide[n] = life.wide[m];
                other.wide[m] = life.wide[n];
                if (Integer.bitCount(other.lacking()) < fewest) {
                    fewest = Integer.bitCount(other.lacking());
                    best = 100 * n + m;
                }
            }
        }
        return best;
    }

    int grownIn(int f, int n) {
        return isField(f) && n >= 0 && n <= 60 ? life.in(n, text.seed, true).grown[f] : -1;
    }

    int wideIn(int notch, int n) {
        return isNotch(notch) && n >= 0 && n <= 60 ? life.in(n, text.seed, true).wide[notch] : -1;
    }

    int year(int f, int n, int s) {
        if (!isField(f) || n < 0 || n > 60 || s < 1 || s > 20) {
            return -1;
        }
        int lacks = 0;
        for (int seed = text.seed; seed < text.seed + s; seed++) {
            lacks += life.in(n, seed, true).lacking() >> f & 1;
        }
        return lacks;
    }

    int tell(int f, int feels, boolean so) {
        if (told.size() == 20 || !isField(f) || feels < 0 || feels > 2) {
            return -1;
        }
        told.add(new Told(f, feels, so));
        return told.size() - 1;
    }

    int forget() {
        int many = told.size();
        told.clear();
        return many;
    }

    private List<Integer> fitting(int k) {
        List<Integer> fitting = steps();
        for (Told tale : told.subList(0, k)) {
            fitting.removeIf(step -> (feels(step, tale.field) == tale.feels) != tale.so);
        }
        return fitting;
    }

    int fits(int k, int what) {
        if (k < 0 || k > told.size() || what < 0 || what > 1) {
            return -1;
        }
        return what == 0 ? fitting(k).size() : fitting(k).stream().mapToInt(step -> 1 << step).sum();
    }

    int ask(int k) {
        if (k < 0 || k > told.size()) {
            return -1;
        }
        List<Integer> fitting = fitting(k);
        int best = -2;
        int fewest = Integer.MAX_VALUE;
        for (int f = 0; f < text.fields.size() && !fitting.isEmpty(); f++) {
            int[] left = new int[3];
            for (int step : fitting) {
                left[feels(step, f)]++;
            }
            int worst = Arrays.stream(left).max().getAsInt();
            if (worst < fewest) {
                fewest = worst;
                best = f;
            }
        }
        return best;
    }

    boolean hold(int slot) {
        if (slot < 0 || slot > 2) {
            return false;
        }
        slots[slot] = life.copy();
        return true;
    }

    boolean restore(int slot) {
        if (slot < 0 || slot > 2 || slots[slot] == null) {
            return false;
        }
        life = slots[slot].copy();
        past.clear();
        return true;
    }

    int count(int what) {
        switch (what) {
            case 0: return text.logs.size();
            case 1: return text.fields.size();
            case 2: return text.notches.size();
            case 3: return life.day;
            case 4: return life.paid;
            case 5: return life.spring;
            case 6: return new Has(life).flood ? 1 : 0;
            case 7: return Arrays.stream(flows()).sum();
            case 8: return tape.length();
            case 9: return past.size();
            case 10: return told.size();
            case 11: return (int) Arrays.stream(slots).filter(slot -> slot != null).count();
            case 12: return Arrays.stream(life.grown).sum();
            case 13: return steps().stream().mapToInt(step -> 1 << step).sum();
            default: return -1;
        }
    }
}
