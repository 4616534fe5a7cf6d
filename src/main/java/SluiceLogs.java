import java.util.Arrays;

/** Rice terraces fed by logs with notches; what it promises is told in the document, DOC.md. */
public final class SluiceLogs {
    public static final int NONE = -1;

    /** What is answered where the document says -2. */
    private static final int NOTHING = -2;

    private static final int MOST_BYTES = 2000;
    private static final int BYTES_A_FEED = 20;
    private static final int MOST_TOKENS = 400;
    private static final int MOST_LOGS = 4;
    private static final int MOST_FIELDS = 6;
    private static final int MOST_NOTCHES = 12;
    private static final int MOST_NOTCHES_OF_A_LOG = 3;
    private static final int MOST_STEPS = 24;
    private static final int MOST_AREA = 99;
    private static final int MOST_WIDTH = 3;
    private static final int MOST_QUARTERS = 3;
    private static final int MOST_SPRING = 9;
    private static final int FIRST_SPRING = 8;
    private static final int MOST_GROWN = 9999;
    private static final int MOST_NEEDS = 9999;
    private static final int MOST_WORTH = 99;
    private static final int MOST_COSTS = 99;
    private static final int MOST_SILTS = 100;
    private static final int MOST_DAYS = 60;
    private static final int MOST_SEEDS = 20;
    private static final int MOST_MENDS = 3;
    private static final int MOST_UNDONE = 40;
    private static final int MOST_TOLD = 20;
    private static final int SLOTS = 3;

    /** Where a NOTCH leads: a LOG's number, TO_FIELD and a FIELD's, or TO_RIVER. */
    private static final int TO_FIELD = 10;
    private static final int TO_RIVER = 20;

    /** How a FIELD FEELS. */
    private static final int AS_MUCH = 0;
    private static final int MORE = 1;
    private static final int LESS = 2;

    private final byte[] tape = new byte[MOST_BYTES];
    private int tapeBytes = 0;
    private int faultPlace = NONE;
    private Plan plan = new Plan();
    private Plan sparePlan = new Plan();
    private final Reader reader = new Reader(sparePlan);
    private final World now = new World(plan);
    private final World would = new World(plan);
    private final Past past = new Past();
    private final State[] slots = new State[SLOTS];
    private final boolean[] slotHolds = new boolean[SLOTS];
    private final Talk talk = new Talk();
    /** How each FIELD FEELS each STEP; NONE where the STEP can not be done. */
    private final int[][] felt = new int[MOST_STEPS][MOST_FIELDS];
    private final int[] mendSteps = new int[MOST_MENDS];

    public SluiceLogs() {
        for (int slot = 0; slot < SLOTS; slot++) {
            slots[slot] = new State();
        }
        plan.empty();
        beginPlan();
    }

    // ==== the tape

    public int feed(int a, int b, int c, int d, int e) {
        if (tapeBytes + BYTES_A_FEED > MOST_BYTES) {
            return NONE;
        }
        putOnTape(a);
        putOnTape(b);
        putOnTape(c);
        putOnTape(d);
        putOnTape(e);
        return tapeBytes;
    }

    private void putOnTape(int four) {
        for (int down = 24; down >= 0 && tapeBytes < MOST_BYTES; down -= 8) {
            tape[tapeBytes] = (byte) (four >>> down);
            tapeBytes++;
        }
    }

    public int back(int n) {
        if (n < 0 || n > tapeBytes) {
            return NONE;
        }
        tapeBytes -= n;
        return tapeBytes;
    }

    public int read() {
        int fault = reader.readText(tape, tapeBytes, sparePlan);
        tapeBytes = 0;
        faultPlace = reader.place;
        if (fault == 0) {
            Plan old = plan;
            plan = sparePlan;
            sparePlan = old;
            beginPlan();
        }
        return fault;
    }

    private void beginPlan() {
        now.plan = plan;
        would.plan = plan;
        now.state.become(plan.first);
        now.settle();
        past.many = 0;
        talk.many = 0;
        for (int slot = 0; slot < SLOTS; slot++) {
            slotHolds[slot] = false;
        }
    }

    public int place() {
        return faultPlace;
    }

    // ==== what there is

    public int log(int log, int what) {
        if (!isLog(log)) {
            return NONE;
        }
        switch (what) {
            case 0: return overInLeast(now.water.logOver[log], now.water.under);
            case 1: return underInLeast(now.water.logOver[log], now.water.under);
            case 2: return now.widthsOf(log);
            case 3: return plan.notchesOf(log);
            default: return NONE;
        }
    }

    public int field(int field, int what) {
        if (!isField(field)) {
            return NONE;
        }
        switch (what) {
            case 0: return overInLeast(now.water.fieldOver[field], now.water.under);
            case 1: return underInLeast(now.water.fieldOver[field], now.water.under);
            case 2: return now.water.flow[field];
            case 3: return plan.area[field];
            case 4: return now.needsOf(field);
            case 5: return now.worthOf(field);
            case 6: return now.state.grown[field];
            case 7: return now.state.quarters[field];
            case 8: return now.state.drainLog[field];
            case 9: return now.widthsTo(field);
            default: return NONE;
        }
    }

    public int notch(int notch, int what) {
        if (!isNotch(notch)) {
            return NONE;
        }
        switch (what) {
            case 0: return plan.notchLog[notch];
            case 1: return plan.notchTo[notch];
            case 2: return now.state.wide[notch];
            case 3: return now.costsOf(notch);
            case 4: return now.siltsOf(notch);
            default: return NONE;
        }
    }

    private boolean isLog(int log) {
        return log >= 0 && log < plan.logs && log < MOST_LOGS;
    }

    private boolean isField(int field) {
        return field >= 0 && field < plan.fields && field < MOST_FIELDS;
    }

    private boolean isNotch(int notch) {
        return notch >= 0 && notch < plan.notches && notch < MOST_NOTCHES;
    }

    private static boolean isFrom(int least, int number, int most) {
        return number >= least && number <= most;
    }

    // ==== by hand

    public int step(int notch, boolean cut) {
        if (!isNotch(notch) || !now.canStep(stepNumber(notch, cut))) {
            return NONE;
        }
        int costs = now.costsOf(notch);
        past.push(now.state);
        now.doStep(stepNumber(notch, cut));
        now.state.paid += costs;
        now.settle();
        return costs;
    }

    private static int stepNumber(int notch, boolean cut) {
        return 2 * notch + (cut ? 1 : 0);
    }

    public boolean drain(int field, int log, int quarters) {
        if (!isField(field) || !isLog(log) || !isFrom(0, quarters, MOST_QUARTERS)) {
            return false;
        }
        if (now.state.drainLog[field] == log && now.state.quarters[field] == quarters) {
            return false;
        }
        past.push(now.state);
        now.state.drainLog[field] = log;
        now.state.quarters[field] = quarters;
        now.settle();
        return true;
    }

    public boolean spring(int spring) {
        if (!isFrom(1, spring, MOST_SPRING) || now.state.spring == spring) {
            return false;
        }
        past.push(now.state);
        now.state.spring = spring;
        now.settle();
        return true;
    }

    public int days(int n) {
        if (!isFrom(0, n, MOST_DAYS)) {
            return NONE;
        }
        if (n > 0) {
            past.push(now.state);
            now.passDays(n, plan.seed, true);
        }
        return now.state.day;
    }

    public boolean undo() {
        if (!past.pop(now.state)) {
            return false;
        }
        now.settle();
        return true;
    }

    // ==== what would be

    public int river(int what) {
        Water water = now.water;
        switch (what) {
            case 0: return overInLeast(water.riverOver, water.under);
            case 1: return underInLeast(water.riverOver, water.under);
            case 2: return overInLeast(water.keptQuarters, 4 * water.under);
            case 3: return underInLeast(water.keptQuarters, 4 * water.under);
            default: return NONE;
        }
    }

    public int round() {
        return Water.hundredfold(now.water.drainedQuarters, 4 * now.water.under);
    }

    public int lacking() {
        return now.lackingFields();
    }

    public int dry() {
        if (now.water.flood) {
            return 0;
        }
        int bits = 0;
        for (int field = 0; field < plan.fields; field++) {
            if (now.water.fieldOver[field] == 0) {
                bits |= 1 << field;
            }
        }
        return bits;
    }

    public int feels(int notch, boolean cut, int field) {
        if (!isNotch(notch) || !isField(field) || !wouldStep(stepNumber(notch, cut))) {
            return NONE;
        }
        return feelsWhatWould(field);
    }

    /** Makes ready what would be by a STEP; not if it can not be done. */
    private boolean wouldStep(int step) {
        if (!now.canStep(step)) {
            return false;
        }
        would.state.become(now.state);
        would.doStep(step);
        would.settle();
        return true;
    }

    private int feelsWhatWould(int field) {
        if (now.water.flood || would.water.flood) {
            return AS_MUCH;
        }
        long before = now.water.fieldOver[field] * would.water.under;
        long behind = would.water.fieldOver[field] * now.water.under;
        if (behind > before) {
            return MORE;
        }
        return behind < before ? LESS : AS_MUCH;
    }

    private void feelAllSteps() {
        for (int step = 0; step < MOST_STEPS; step++) {
            boolean can = wouldStep(step);
            for (int field = 0; field < MOST_FIELDS; field++) {
                felt[step][field] = can ? feelsWhatWould(field) : NONE;
            }
        }
    }

    public int unfelt() {
        feelAllSteps();
        int bits = 0;
        for (int step = 0; step < MOST_STEPS; step++) {
            if (now.canStep(step) && isUnfelt(step)) {
                bits |= 1 << step;
            }
        }
        return bits;
    }

    private boolean isUnfelt(int step) {
        for (int field = 0; field < plan.fields; field++) {
            if (felt[step][field] != AS_MUCH) {
                return false;
            }
        }
        return true;
    }

    public int best(int field, int what) {
        if (!isField(field) || !isFrom(0, what, 1)) {
            return NONE;
        }
        int best = NOTHING;
        int bestFlow = NOTHING;
        long over = now.water.fieldOver[field];
        long under = now.water.under;
        for (int step = 0; step < MOST_STEPS; step++) {
            if (!wouldStep(step) || feelsWhatWould(field) != MORE) {
                continue;
            }
            long thenOver = would.water.fieldOver[field];
            long thenUnder = would.water.under;
            if (thenOver * under > over * thenUnder) {
                over = thenOver;
                under = thenUnder;
                best = step;
                bestFlow = would.water.flow[field];
            }
        }
        return what == 0 ? best : bestFlow;
    }

    public int tempted() {
        feelAllSteps();
        int bits = 0;
        for (int notch = 0; notch < plan.notches; notch++) {
            int field = plan.notchTo[notch] - TO_FIELD;
            if (isField(field) && now.state.wide[notch] > 0
                    && wouldHaveMoreAt(plan.notchLog[notch], field)) {
                bits |= 1 << field;
            }
        }
        return bits;
    }

    private boolean wouldHaveMoreAt(int log, int field) {
        for (int step = 0; step < 2 * plan.notches; step++) {
            if (plan.notchLog[step / 2] == log && felt[step][field] == MORE) {
                return true;
            }
        }
        return false;
    }

    public int mend(int i) {
        if (i < NONE) {
            return NONE;
        }
        int many = 0;
        while (many <= MOST_MENDS && !findMend(many)) {
            many++;
        }
        if (many > MOST_MENDS) {
            return NOTHING;
        }
        if (i == NONE) {
            return many;
        }
        return i < many ? mendSteps[i] : NONE;
    }

    /**
     * Goes through all rows of so many STEPS, the lowest first: a row is a number
     * whose digits, to the base of how many STEPS there are, are the STEPS.
     */
    private boolean findMend(int many) {
        int steps = 2 * plan.notches;
        int rows = 1;
        for (int i = 0; i < many; i++) {
            rows *= steps;
        }
        for (int row = 0; row < rows; row++) {
            if (splitMend(row, many, steps) && wouldMend(many)) {
                return true;
            }
        }
        return false;
    }

    /** Splits a row into mendSteps; false if a STEP is behind a higher one. */
    private boolean splitMend(int row, int many, int steps) {
        int rest = row;
        for (int i = many - 1; i >= 0 && steps > 0; i--) {
            mendSteps[i] = rest % steps;
            rest /= steps;
            if (i + 1 < many && mendSteps[i] > mendSteps[i + 1]) {
                return false;
            }
        }
        return true;
    }

    private boolean wouldMend(int many) {
        would.state.become(now.state);
        for (int i = 0; i < many; i++) {
            if (!would.canStep(mendSteps[i])) {
                return false;
            }
            would.doStep(mendSteps[i]);
        }
        would.settle();
        return !would.water.flood && !would.lacksSomewhere();
    }

    public int feeds(int field) {
        if (!isField(field)) {
            return NONE;
        }
        int logs = now.drainTarget(field);
        int fields = 0;
        // each turn but the last comes to one more LOG at least
        for (int turn = 0; turn < plan.logs; turn++) {
            for (int notch = 0; notch < plan.notches; notch++) {
                if (now.state.wide[notch] == 0 || (logs >> plan.notchLog[notch] & 1) == 0) {
                    continue;
                }
                int to = plan.notchTo[notch];
                if (isLog(to)) {
                    logs |= 1 << to;
                } else if (isField(to - TO_FIELD)) {
                    fields |= 1 << to - TO_FIELD;
                    logs |= now.drainTarget(to - TO_FIELD);
                }
            }
        }
        return fields;
    }

    public int hangs(int field) {
        if (!isField(field)) {
            return NONE;
        }
        if (now.water.flood || now.water.fieldOver[field] == 0) {
            return 0;
        }
        int bits = 0;
        for (int notch = 0; notch < plan.notches; notch++) {
            would.state.become(now.state);
            would.state.wide[notch] = 0;
            would.settle();
            if (!would.water.flood && would.water.fieldOver[field] == 0) {
                bits |= 1 << notch;
            }
        }
        return bits;
    }

    public int spread() {
        if (plan.fields == 0) {
            return 0;
        }
        int least = now.water.flow[0];
        int greatest = least;
        for (int field = 1; field < plan.fields; field++) {
            least = Math.min(least, now.water.flow[field]);
            greatest = Math.max(greatest, now.water.flow[field]);
        }
        return greatest - least;
    }

    public int richest() {
        if (plan.fields == 0 || now.water.flood) {
            return NOTHING;
        }
        int richest = 0;
        for (int field = 1; field < plan.fields; field++) {
            if (now.water.fieldOver[field] > now.water.fieldOver[richest]) {
                richest = field;
            }
        }
        return richest;
    }

    public int crop(int n) {
        if (!isFrom(0, n, MOST_DAYS)) {
            return NONE;
        }
        wouldPassDays(n, plan.seed, false);
        return would.grownOfAll() - now.grownOfAll();
    }

    private void wouldPassDays(int n, int seed, boolean silting) {
        would.state.become(now.state);
        would.settle();
        would.passDays(n, seed, silting);
    }

    public int again(int field, int quarters) {
        if (!isField(field) || !isFrom(0, quarters, MOST_QUARTERS) || plan.logs == 0) {
            return NONE;
        }
        would.state.become(now.state);
        would.state.quarters[field] = quarters;
        if (would.state.drainLog[field] == NOTHING) {
            would.state.drainLog[field] = 0;
        }
        would.settle();
        return would.water.flow[field];
    }

    public int swap() {
        int best = NOTHING;
        int fewest = Integer.bitCount(now.lackingFields());
        for (int one = 0; one < plan.notches; one++) {
            for (int other = one + 1; other < plan.notches; other++) {
                wouldSwap(one, other);
                int lacking = Integer.bitCount(would.lackingFields());
                if (lacking < fewest) {
                    fewest = lacking;
                    best = 100 * one + other;
                }
            }
        }
        return best;
    }

    private void wouldSwap(int one, int other) {
        would.state.become(now.state);
        would.state.wide[one] = now.state.wide[other];
        would.state.wide[other] = now.state.wide[one];
        would.settle();
    }

    public int grownIn(int field, int n) {
        if (!isField(field) || !isFrom(0, n, MOST_DAYS)) {
            return NONE;
        }
        wouldPassDays(n, plan.seed, true);
        return would.state.grown[field];
    }

    public int wideIn(int notch, int n) {
        if (!isNotch(notch) || !isFrom(0, n, MOST_DAYS)) {
            return NONE;
        }
        wouldPassDays(n, plan.seed, true);
        return would.state.wide[notch];
    }

    public int year(int field, int n, int s) {
        if (!isField(field) || !isFrom(0, n, MOST_DAYS) || !isFrom(1, s, MOST_SEEDS)) {
            return NONE;
        }
        int lacks = 0;
        for (int more = 0; more < s; more++) {
            wouldPassDays(n, plan.seed + more, true);
            if (would.lacks(field)) {
                lacks++;
            }
        }
        return lacks;
    }

    // ==== what is told

    public int tell(int field, int feels, boolean so) {
        if (talk.many >= MOST_TOLD || !isField(field) || !isFrom(AS_MUCH, feels, LESS)) {
            return NONE;
        }
        int number = talk.many;
        talk.field[number] = field;
        talk.feels[number] = feels;
        talk.so[number] = so;
        talk.many++;
        return number;
    }

    public int forget() {
        int many = talk.many;
        talk.many = 0;
        return many;
    }

    public int fits(int k, int what) {
        if (!isFrom(0, k, talk.many) || !isFrom(0, what, 1)) {
            return NONE;
        }
        feelAllSteps();
        int steps = stepsThatFit(k);
        return what == 0 ? Integer.bitCount(steps) : steps;
    }

    /** To be called behind feelAllSteps. */
    private int stepsThatFit(int k) {
        int bits = 0;
        for (int step = 0; step < MOST_STEPS; step++) {
            if (now.canStep(step) && talk.fitsKnown(felt[step], k)) {
                bits |= 1 << step;
            }
        }
        return bits;
    }

    public int ask(int k) {
        if (!isFrom(0, k, talk.many)) {
            return NONE;
        }
        feelAllSteps();
        int steps = stepsThatFit(k);
        if (steps == 0) {
            return NOTHING;
        }
        int best = NOTHING;
        int fewest = MOST_STEPS + 1;
        for (int field = 0; field < plan.fields; field++) {
            int left = leftAtWorst(steps, field);
            if (left < fewest) {
                fewest = left;
                best = field;
            }
        }
        return best;
    }

    private int leftAtWorst(int steps, int field) {
        int worst = 0;
        for (int feels = AS_MUCH; feels <= LESS; feels++) {
            int left = 0;
            for (int step = 0; step < MOST_STEPS; step++) {
                if ((steps >> step & 1) == 1 && felt[step][field] == feels) {
                    left++;
                }
            }
            worst = Math.max(worst, left);
        }
        return worst;
    }

    // ==== what is held

    public boolean hold(int slot) {
        if (!isFrom(0, slot, SLOTS - 1)) {
            return false;
        }
        slots[slot].become(now.state);
        slotHolds[slot] = true;
        return true;
    }

    public boolean restore(int slot) {
        if (!isFrom(0, slot, SLOTS - 1) || !slotHolds[slot]) {
            return false;
        }
        now.state.become(slots[slot]);
        now.settle();
        past.many = 0;
        return true;
    }

    public int count(int what) {
        switch (what) {
            case 0: return plan.logs;
            case 1: return plan.fields;
            case 2: return plan.notches;
            case 3: return now.state.day;
            case 4: return now.state.paid;
            case 5: return now.state.spring;
            case 6: return now.water.flood ? 1 : 0;
            case 7: return flowOfAll();
            case 8: return tapeBytes;
            case 9: return past.many;
            case 10: return talk.many;
            case 11: return slotsThatHold();
            case 12: return now.grownOfAll();
            case 13: return stepsThatCanBe();
            default: return NONE;
        }
    }

    private int flowOfAll() {
        int sum = 0;
        for (int field = 0; field < plan.fields; field++) {
            sum += now.water.flow[field];
        }
        return sum;
    }

    private int slotsThatHold() {
        int many = 0;
        for (int slot = 0; slot < SLOTS; slot++) {
            many += slotHolds[slot] ? 1 : 0;
        }
        return many;
    }

    private int stepsThatCanBe() {
        int bits = 0;
        for (int step = 0; step < MOST_STEPS; step++) {
            if (now.canStep(step)) {
                bits |= 1 << step;
            }
        }
        return bits;
    }

    // ==== fractions

    /** Bounded, though Euclid's way ends of itself: longs need some ninety turns at most. */
    private static long greatestDivisor(long a, long b) {
        long one = a;
        long other = b;
        for (int turn = 0; turn < 200 && other != 0; turn++) {
            long rest = one % other;
            one = other;
            other = rest;
        }
        return one;
    }

    /** 0 / 0, a FLOOD's fraction, stays as it is. */
    private static int overInLeast(long over, long under) {
        long divisor = greatestDivisor(over, under);
        return divisor == 0 ? 0 : (int) (over / divisor);
    }

    private static int underInLeast(long over, long under) {
        long divisor = greatestDivisor(over, under);
        return divisor == 0 ? 0 : (int) (under / divisor);
    }

    /** What goes on from day to day, and can be undone and held; the text's Plan stays. */
    private static final class State {
        final int[] wide = new int[MOST_NOTCHES];
        final int[] drainLog = new int[MOST_FIELDS];
        final int[] quarters = new int[MOST_FIELDS];
        final int[] grown = new int[MOST_FIELDS];
        int spring;
        int day;
        int paid;

        void empty() {
            Arrays.fill(wide, 0);
            Arrays.fill(drainLog, NOTHING);
            Arrays.fill(quarters, 0);
            Arrays.fill(grown, 0);
            spring = FIRST_SPRING;
            day = 0;
            paid = 0;
        }

        void become(State other) {
            System.arraycopy(other.wide, 0, wide, 0, MOST_NOTCHES);
            System.arraycopy(other.drainLog, 0, drainLog, 0, MOST_FIELDS);
            System.arraycopy(other.quarters, 0, quarters, 0, MOST_FIELDS);
            System.arraycopy(other.grown, 0, grown, 0, MOST_FIELDS);
            spring = other.spring;
            day = other.day;
            paid = other.paid;
        }
    }

    /** The States ahead of the last things done, round and round in as many places as can be undone. */
    private static final class Past {
        final State[] states = new State[MOST_UNDONE];
        int last = 0;
        int many = 0;

        Past() {
            for (int i = 0; i < MOST_UNDONE; i++) {
                states[i] = new State();
            }
        }

        void push(State state) {
            last = last + 1 < MOST_UNDONE ? last + 1 : 0;
            states[last].become(state);
            many = Math.min(many + 1, MOST_UNDONE);
        }

        boolean pop(State into) {
            if (many == 0) {
                return false;
            }
            into.become(states[last]);
            last = last > 0 ? last - 1 : MOST_UNDONE - 1;
            many--;
            return true;
        }
    }

    /** What was TOLD of the STEP that nobody saw. */
    private static final class Talk {
        final int[] field = new int[MOST_TOLD];
        final int[] feels = new int[MOST_TOLD];
        final boolean[] so = new boolean[MOST_TOLD];
        int many = 0;

        boolean fitsKnown(int[] feltByField, int known) {
            for (int i = 0; i < known && i < MOST_TOLD; i++) {
                if ((feltByField[field[i]] == feels[i]) != so[i]) {
                    return false;
                }
            }
            return true;
        }
    }

    /** What a text tells; the LAWS' code is as Reader leaves it and World.law goes through it. */
    private static final class Plan {
        static final int LAWS = 4;
        static final int NEEDS = 0;
        static final int WORTH = 1;
        static final int COSTS = 2;
        static final int SILTS = 3;

        /** A code below VAR is an INT; then come the VARs, then what is done with them. */
        static final int VAR = 10000;
        static final int VAR_FLOW = 10000;
        static final int VAR_AREA = 10001;
        static final int VARS = 9;
        static final int ADD = 20000;
        static final int SUBTRACT = 20001;
        static final int MULTIPLY = 20002;
        static final int DIVIDE = 20003;
        static final int THEN = 20004;
        static final int ELSE = 20005;
        static final int END = 20006;

        /** No TOKEN makes more than one code; the LAWS that are not told take eight. */
        static final int MOST_CODES = MOST_TOKENS + 2 * LAWS;

        int logs;
        int fields;
        int notches;
        int seed;
        final long[] logName = new long[MOST_LOGS];
        final long[] fieldName = new long[MOST_FIELDS];
        final int[] area = new int[MOST_FIELDS];
        final int[] notchLog = new int[MOST_NOTCHES];
        final int[] notchTo = new int[MOST_NOTCHES];
        final int[] lawStart = new int[LAWS];
        final int[] code = new int[MOST_CODES];
        int codes;
        final State first = new State();

        void empty() {
            logs = 0;
            fields = 0;
            notches = 0;
            seed = 0;
            first.empty();
            codes = 0;
            addUntoldLaw(NEEDS, VAR_AREA);
            addUntoldLaw(WORTH, VAR_FLOW);
            addUntoldLaw(COSTS, 1);
            addUntoldLaw(SILTS, 0);
        }

        private void addUntoldLaw(int law, int only) {
            lawStart[law] = codes;
            addCode(only);
            addCode(END);
        }

        void addCode(int what) {
            if (codes < MOST_CODES) {
                code[codes] = what;
                codes++;
            }
        }

        /** The place of the first ELSE behind a THEN: ifs do not stand within one another. */
        int elseBehind(int then) {
            for (int at = then; at < codes; at++) {
                if (code[at] == ELSE) {
                    return at;
                }
            }
            return codes;
        }

        int notchesOf(int log) {
            int bits = 0;
            for (int notch = 0; notch < notches; notch++) {
                if (notchLog[notch] == log) {
                    bits |= 1 << notch;
                }
            }
            return bits;
        }
    }

    /**
     * What each LOG and FIELD has, for ever. All fractions are over one number: what is
     * solved for is what each LOG gives to a WIDTH of 1, four times over, so that
     * QUARTERS are whole numbers and the rows' divisions leave no rest.
     */
    private static final class Water {
        static final int SPRING_COLUMN = MOST_LOGS;

        boolean flood;
        long under;
        long riverOver;
        /** What is kept and what is drained, by all, over four times under. */
        long keptQuarters;
        long drainedQuarters;
        final long[] logOver = new long[MOST_LOGS];
        final long[] fieldOver = new long[MOST_FIELDS];
        final int[] flow = new int[MOST_FIELDS];
        private final int[] parts = new int[MOST_LOGS];
        private final int[] lostParts = new int[MOST_LOGS];
        private final boolean[] reached = new boolean[MOST_LOGS];
        private final boolean[] open = new boolean[MOST_LOGS];
        private final long[][] rows = new long[MOST_LOGS][MOST_LOGS + 1];

        void solve(Plan plan, State state) {
            clear();
            if (plan.logs == 0) {
                riverOver = state.spring;
                return;
            }
            partLogs(plan, state);
            reachLogs(plan, state);
            openLogs(plan, state);
            flood = reachesClosedLog(plan.logs);
            if (flood) {
                under = 0;
                return;
            }
            makeRows(plan, state);
            solveRows(plan.logs);
            shareOut(plan, state);
        }

        private void clear() {
            flood = false;
            under = 1;
            riverOver = 0;
            keptQuarters = 0;
            drainedQuarters = 0;
            Arrays.fill(logOver, 0);
            Arrays.fill(fieldOver, 0);
            Arrays.fill(flow, 0);
            Arrays.fill(parts, 0);
            Arrays.fill(lostParts, 0);
            for (int log = 0; log < MOST_LOGS; log++) {
                reached[log] = false;
            }
        }

        /** A LOG whose WIDTHS are all 0 is as one with a NOTCH into the river. */
        private void partLogs(Plan plan, State state) {
            for (int notch = 0; notch < plan.notches; notch++) {
                int log = plan.notchLog[notch];
                parts[log] += state.wide[notch];
                if (plan.notchTo[notch] == TO_RIVER) {
                    lostParts[log] += state.wide[notch];
                }
            }
            for (int log = 0; log < plan.logs; log++) {
                if (parts[log] == 0) {
                    parts[log] = 1;
                    lostParts[log] = 1;
                }
            }
        }

        /** As many turns as LOGS: no way without a ring is longer. */
        private void reachLogs(Plan plan, State state) {
            reached[0] = true;
            for (int turn = 0; turn < plan.logs; turn++) {
                for (int notch = 0; notch < plan.notches; notch++) {
                    if (state.wide[notch] == 0 || !reached[plan.notchLog[notch]]) {
                        continue;
                    }
                    int next = nextLog(plan, state, notch);
                    if (next != NONE) {
                        reached[next] = true;
                    }
                }
            }
        }

        /** The LOG to which a NOTCH leads, by a FIELD's DRAIN or without; NONE if there is none. */
        private static int nextLog(Plan plan, State state, int notch) {
            int to = plan.notchTo[notch];
            if (to < TO_FIELD) {
                return to;
            }
            if (to == TO_RIVER || state.quarters[to - TO_FIELD] == 0) {
                return NONE;
            }
            return state.drainLog[to - TO_FIELD];
        }

        private void openLogs(Plan plan, State state) {
            for (int log = 0; log < plan.logs; log++) {
                open[log] = lostParts[log] > 0;
            }
            for (int turn = 0; turn < plan.logs; turn++) {
                for (int notch = 0; notch < plan.notches; notch++) {
                    int to = plan.notchTo[notch];
                    if (state.wide[notch] > 0 && (to >= TO_FIELD || open[to])) {
                        open[plan.notchLog[notch]] = true;
                    }
                }
            }
        }

        private boolean reachesClosedLog(int logs) {
            for (int log = 0; log < logs; log++) {
                if (reached[log] && !open[log]) {
                    return true;
                }
            }
            return false;
        }

        /** Row by row: what a LOG parts less what comes to it of the LOGS is what comes of the SPRING. */
        private void makeRows(Plan plan, State state) {
            for (int log = 0; log < plan.logs; log++) {
                Arrays.fill(rows[log], 0);
                // a LOG that nothing comes to may be in a ring that has no one answer: it has 0
                rows[log][log] = reached[log] ? 4 * parts[log] : 1;
            }
            rows[0][SPRING_COLUMN] = 4 * state.spring;
            for (int notch = 0; notch < plan.notches; notch++) {
                int log = plan.notchLog[notch];
                int next = nextLog(plan, state, notch);
                if (!reached[log] || state.wide[notch] == 0 || next == NONE) {
                    continue;
                }
                int to = plan.notchTo[notch];
                int quarters = to < TO_FIELD ? 4 : state.quarters[to - TO_FIELD];
                rows[next][log] -= quarters * state.wide[notch];
            }
        }

        /**
         * Whole numbers throughout: each division by the pivot ahead leaves no rest. No
         * pivot is 0, as every reached LOG has a way out; were one, nothing would be divided.
         */
        private void solveRows(int logs) {
            long before = 1;
            for (int pivot = 0; pivot < logs; pivot++) {
                long head = rows[pivot][pivot];
                if (head == 0) {
                    return;
                }
                for (int row = 0; row < logs; row++) {
                    if (row != pivot) {
                        reduceRow(row, pivot, before);
                    }
                }
                before = head;
            }
            under = before;
        }

        private void reduceRow(int row, int pivot, long before) {
            if (before == 0) {
                return;
            }
            long head = rows[pivot][pivot];
            long factor = rows[row][pivot];
            for (int column = 0; column <= SPRING_COLUMN; column++) {
                rows[row][column] = (head * rows[row][column] - factor * rows[pivot][column]) / before;
            }
        }

        private void shareOut(Plan plan, State state) {
            for (int log = 0; log < plan.logs; log++) {
                logOver[log] = parts[log] * rows[log][SPRING_COLUMN];
                riverOver += lostParts[log] * rows[log][SPRING_COLUMN];
            }
            for (int notch = 0; notch < plan.notches; notch++) {
                int field = plan.notchTo[notch] - TO_FIELD;
                if (field >= 0 && field < plan.fields) {
                    fieldOver[field] += state.wide[notch] * rows[plan.notchLog[notch]][SPRING_COLUMN];
                }
            }
            for (int field = 0; field < plan.fields; field++) {
                flow[field] = hundredfold(fieldOver[field], under);
                drainedQuarters += state.quarters[field] * fieldOver[field];
                keptQuarters += (4 - state.quarters[field]) * fieldOver[field];
            }
        }

        /** 100 times a fraction, rounded down; 0 of a FLOOD's. */
        static int hundredfold(long over, long under) {
            return under == 0 ? 0 : (int) (100 * over / under);
        }
    }

    /** A Plan in a State, with the Water of it: as it is, or as it would be. */
    private static final class World {
        Plan plan;
        final State state = new State();
        final Water water = new Water();
        private final int[] vars = new int[Plan.VARS];
        private final int[] stack = new int[Plan.MOST_CODES];

        World(Plan first) {
            plan = first;
        }

        /** To be called behind every change of WIDTHS, DRAINS or SPRING. */
        void settle() {
            water.solve(plan, state);
        }

        int widthsOf(int log) {
            int sum = 0;
            for (int notch = 0; notch < plan.notches; notch++) {
                if (plan.notchLog[notch] == log) {
                    sum += state.wide[notch];
                }
            }
            return sum;
        }

        int widthsTo(int field) {
            int sum = 0;
            for (int notch = 0; notch < plan.notches; notch++) {
                if (plan.notchTo[notch] == TO_FIELD + field) {
                    sum += state.wide[notch];
                }
            }
            return sum;
        }

        /** The LOG, as a bit, to which a FIELD drains; 0 if it drains nothing. */
        int drainTarget(int field) {
            return state.quarters[field] > 0 ? 1 << state.drainLog[field] : 0;
        }

        boolean canStep(int step) {
            if (step < 0 || step >= 2 * plan.notches) {
                return false;
            }
            int wide = state.wide[step / 2];
            return step % 2 == 1 ? wide < MOST_WIDTH : wide > 0;
        }

        void doStep(int step) {
            state.wide[step / 2] += step % 2 == 1 ? 1 : -1;
        }

        int needsOf(int field) {
            lookAtField(field);
            return heldTo(MOST_NEEDS, valueOf(Plan.NEEDS));
        }

        int worthOf(int field) {
            lookAtField(field);
            return heldTo(MOST_WORTH, valueOf(Plan.WORTH));
        }

        int costsOf(int notch) {
            lookAtNotch(notch);
            return heldTo(MOST_COSTS, valueOf(Plan.COSTS));
        }

        int siltsOf(int notch) {
            lookAtNotch(notch);
            return heldTo(MOST_SILTS, valueOf(Plan.SILTS));
        }

        private static int heldTo(int most, int value) {
            return Math.max(0, Math.min(most, value));
        }

        private void lookAtField(int field) {
            vars[0] = water.flow[field];
            vars[1] = plan.area[field];
            vars[2] = widthsTo(field);
            vars[3] = state.grown[field];
            vars[6] = state.quarters[field];
            lookAround(field);
        }

        private void lookAtNotch(int notch) {
            vars[0] = 0;
            vars[1] = 0;
            vars[2] = state.wide[notch];
            vars[3] = 0;
            vars[6] = 0;
            lookAround(notch);
        }

        private void lookAround(int which) {
            vars[4] = state.day;
            vars[5] = which;
            vars[7] = plan.logs;
            vars[8] = plan.fields;
        }

        /** A LAW of what was looked at last. */
        private int valueOf(int law) {
            int top = 0;
            for (int at = plan.lawStart[law]; at < plan.codes; at++) {
                int code = plan.code[at];
                if (code < Plan.ADD) {
                    stack[top] = code < Plan.VAR ? code : vars[code - Plan.VAR];
                    top++;
                } else if (code == Plan.ELSE || code == Plan.END) {
                    return top > 0 ? stack[top - 1] : 0;
                } else if (top < 2) {
                    return 0;
                } else if (code == Plan.THEN) {
                    top -= 2;
                    at = stack[top] < stack[top + 1] ? at : Math.max(at, plan.elseBehind(at));
                } else if (code == Plan.DIVIDE && stack[top - 1] == 0) {
                    return 0;
                } else {
                    top--;
                    stack[top - 1] = joined(stack[top - 1], code, stack[top]);
                }
            }
            return 0;
        }

        private static int joined(int one, int code, int other) {
            switch (code) {
                case Plan.ADD: return one + other;
                case Plan.SUBTRACT: return one - other;
                case Plan.MULTIPLY: return one * other;
                default: return other == 0 ? 0 : one / other;
            }
        }

        boolean lacks(int field) {
            return water.flow[field] < needsOf(field);
        }

        int lackingFields() {
            int bits = 0;
            for (int field = 0; field < plan.fields; field++) {
                if (lacks(field)) {
                    bits |= 1 << field;
                }
            }
            return bits;
        }

        boolean lacksSomewhere() {
            for (int field = 0; field < plan.fields; field++) {
                if (water.flow[field] < needsOf(field)) {
                    return true;
                }
            }
            return false;
        }

        int grownOfAll() {
            int sum = 0;
            for (int field = 0; field < plan.fields; field++) {
                sum += state.grown[field];
            }
            return sum;
        }

        /** FIELDS grow first: their WORTH is by the WIDTHS as the DAY began. */
        void passDays(int n, int seed, boolean silting) {
            for (int i = 0; i < n; i++) {
                grow();
                boolean stopped = silting && silt(seed);
                state.day++;
                if (stopped) {
                    settle();
                }
            }
        }

        private void grow() {
            for (int field = 0; field < plan.fields; field++) {
                state.grown[field] = Math.min(MOST_GROWN, state.grown[field] + worthOf(field));
            }
        }

        /** Whether a NOTCH was STOPPED. */
        private boolean silt(int seed) {
            boolean stopped = false;
            for (int notch = 0; notch < plan.notches; notch++) {
                if (state.wide[notch] > 0
                        && lot(100, seed, 16 * state.day + notch) < siltsOf(notch)) {
                    state.wide[notch]--;
                    stopped = true;
                }
            }
            return stopped;
        }

        private static int lot(int n, int seed, int which) {
            int h = mixed(mixed(seed, 217), which);
            return n > 0 ? (h >>> 1) % n : 0;
        }

        private static int mixed(int h, int with) {
            int product = (h ^ with) * 1103515245 + 12345;
            return product ^ (product >>> 15);
        }
    }

    /** The TOKENS of a text, and behind them its END. */
    private static final class Tokens {
        /** Eight letters a word, so that a word's number is its kind. */
        static final String WORDS =
                "log     field   notch   drain   spring  needs   worth   costs   silts   seed    river   if      then    else    flow    area    wide    grown   day     which   store   logs    fields  ";
        static final int WORD_LETTERS = 8;
        static final int INT_DIGITS = 4;
        static final int LOG = 0;
        static final int FIELD = 1;
        static final int NOTCH = 2;
        static final int DRAIN = 3;
        static final int SPRING = 4;
        static final int NEEDS = 5;
        static final int SILTS = 8;
        static final int SEED = 9;
        static final int RIVER = 10;
        static final int IF = 11;
        static final int THEN = 12;
        static final int ELSE = 13;
        static final int FLOW = 14;
        static final int FIELDS = 22;

        /** A sign's kind is FIRST_SIGN and its place here. */
        static final String SIGNS = ";=+-*/<()";
        static final int FIRST_SIGN = 30;
        static final int SEMICOLON = 30;
        static final int EQUALS = 31;
        static final int PLUS = 32;
        static final int MINUS = 33;
        static final int TIMES = 34;
        static final int SLASH = 35;
        static final int LESS_THAN = 36;
        static final int OPENING = 37;
        static final int CLOSING = 38;

        static final int NAME = 40;
        static final int INT = 41;
        static final int NO_TOKEN = 42;
        static final int END = 43;

        final int[] kind = new int[MOST_TOKENS + 2];
        final int[] place = new int[MOST_TOKENS + 2];
        /** An INT's number; a NAME's letters, 27 to the power of their places. */
        final long[] value = new long[MOST_TOKENS + 2];
        int many;

        /** One TOKEN more than a text may have is kept: the Reader finds no ROOM for it. */
        void scan(byte[] text, int bytes) {
            many = 0;
            for (int at = 0; at < bytes && many <= MOST_TOKENS; at++) {
                if (isBlank(text[at])) {
                    continue;
                }
                int end = endOfToken(text, bytes, at);
                kind[many] = kindOf(text, at, end);
                place[many] = at;
                value[many] = valueOf(text, at, end);
                many++;
                at = Math.max(at, end - 1);
            }
            kind[many] = END;
            place[many] = bytes;
            value[many] = 0;
        }

        private static boolean isBlank(int sign) {
            return sign == 9 || sign == 10 || sign == 13 || sign == 32;
        }

        private static boolean isLetter(int sign) {
            return sign >= 'a' && sign <= 'z';
        }

        private static boolean isDigit(int sign) {
            return sign >= '0' && sign <= '9';
        }

        private static int endOfToken(byte[] text, int bytes, int start) {
            boolean letters = isLetter(text[start]);
            boolean digits = isDigit(text[start]);
            int end = start + 1;
            while (end < bytes && (letters && isLetter(text[end]) || digits && isDigit(text[end]))) {
                end++;
            }
            return end;
        }

        private static int kindOf(byte[] text, int start, int end) {
            if (isLetter(text[start])) {
                return end - start > WORD_LETTERS ? NO_TOKEN : wordOrName(text, start, end);
            }
            if (isDigit(text[start])) {
                return end - start > INT_DIGITS ? NO_TOKEN : INT;
            }
            for (int sign = 0; sign < SIGNS.length(); sign++) {
                if (SIGNS.charAt(sign) == text[start]) {
                    return FIRST_SIGN + sign;
                }
            }
            return NO_TOKEN;
        }

        private static int wordOrName(byte[] text, int start, int end) {
            for (int word = 0; word <= FIELDS; word++) {
                if (isWord(text, start, end, word * WORD_LETTERS)) {
                    return word;
                }
            }
            return NAME;
        }

        private static boolean isWord(byte[] text, int start, int end, int wordStart) {
            for (int i = 0; i < WORD_LETTERS && wordStart + i < WORDS.length(); i++) {
                int letter = start + i < end ? text[start + i] : ' ';
                if (WORDS.charAt(wordStart + i) != letter) {
                    return false;
                }
            }
            return true;
        }

        private static long valueOf(byte[] text, int start, int end) {
            long value = 0;
            for (int at = start; at < end; at++) {
                value = isDigit(text[at]) ? value * 10 + (text[at] - '0') : value * 27 + (text[at] - 'a' + 1);
            }
            return value;
        }
    }

    /** Reads a text into a Plan, or finds its FAULT. */
    private static final class Reader {
        static final int SYNTAX = 1;
        static final int ROOM = 2;
        static final int TWICE = 3;
        static final int UNKNOWN_NAME = 4;
        static final int WRONG = 5;
        static final int FULL = 6;
        static final int MOST_IFS = 4;
        static final int MOST_OPEN = 6;
        /** Ahead of each open ( and at the end at most one of + - and one of * / wait. */
        static final int MOST_WAITING = 3 * (MOST_OPEN + 1);

        int fault;
        int place;
        private final Tokens tokens = new Tokens();
        private Plan plan;
        private int next;
        /** The first FAULT from TWICE on, which counts only if there is no SYNTAX and no ROOM. */
        private int laterFault;
        private int laterPlace;
        private final int[] waiting = new int[MOST_WAITING];
        private int waits;

        Reader(Plan first) {
            plan = first;
        }

        int readText(byte[] text, int bytes, Plan into) {
            tokens.scan(text, bytes);
            plan = into;
            plan.empty();
            next = 0;
            fault = 0;
            place = NONE;
            laterFault = 0;
            laterPlace = NONE;
            boolean good = true;
            for (int i = 0; i <= MOST_TOKENS && good && kind() != Tokens.END; i++) {
                good = readTell();
            }
            if (fault == 0) {
                fault = laterFault;
                place = laterPlace;
            }
            return fault;
        }

        private int kind() {
            return tokens.kind[next];
        }

        private boolean fail(int what) {
            fault = what;
            place = tokens.place[next];
            return false;
        }

        /** Of the TOKEN that was taken last. */
        private void failLater(int what) {
            if (laterFault == 0 && next > 0) {
                laterFault = what;
                laterPlace = tokens.place[next - 1];
            }
        }

        private boolean pass() {
            if (next >= MOST_TOKENS) {
                return fail(ROOM);
            }
            next++;
            return true;
        }

        private boolean take(int kind) {
            return kind() == kind ? pass() : fail(SYNTAX);
        }

        private long taken() {
            return next > 0 ? tokens.value[next - 1] : 0;
        }

        private boolean takeNumber(int least, int most) {
            if (!take(Tokens.INT)) {
                return false;
            }
            if (taken() < least || taken() > most) {
                failLater(WRONG);
            }
            return true;
        }

        private boolean readTell() {
            int kind = kind();
            if (kind >= Tokens.NEEDS && kind <= Tokens.SILTS) {
                return readLaw(kind - Tokens.NEEDS);
            }
            switch (kind) {
                case Tokens.LOG: return readLog();
                case Tokens.FIELD: return readField();
                case Tokens.NOTCH: return readNotch();
                case Tokens.DRAIN: return readDrain();
                case Tokens.SPRING: return readSpring();
                case Tokens.SEED: return readSeed();
                default: return fail(SYNTAX);
            }
        }

        private boolean readLog() {
            if (plan.logs >= MOST_LOGS) {
                return fail(ROOM);
            }
            if (!pass() || !takeNewName()) {
                return false;
            }
            plan.logName[plan.logs] = taken();
            plan.logs++;
            return take(Tokens.SEMICOLON);
        }

        private boolean readField() {
            if (plan.fields >= MOST_FIELDS) {
                return fail(ROOM);
            }
            if (!pass() || !takeNewName()) {
                return false;
            }
            plan.fieldName[plan.fields] = taken();
            plan.fields++;
            if (!takeNumber(1, MOST_AREA)) {
                return false;
            }
            plan.area[plan.fields - 1] = (int) taken();
            return take(Tokens.SEMICOLON);
        }

        private boolean takeNewName() {
            if (!take(Tokens.NAME)) {
                return false;
            }
            if (logNamed(taken()) != NONE || fieldNamed(taken()) != NONE) {
                failLater(TWICE);
            }
            return true;
        }

        private int logNamed(long name) {
            for (int log = 0; log < plan.logs; log++) {
                if (plan.logName[log] == name) {
                    return log;
                }
            }
            return NONE;
        }

        private int fieldNamed(long name) {
            for (int field = 0; field < plan.fields; field++) {
                if (plan.fieldName[field] == name) {
                    return field;
                }
            }
            return NONE;
        }

        private boolean readNotch() {
            if (plan.notches >= MOST_NOTCHES) {
                return fail(ROOM);
            }
            if (!pass() || !take(Tokens.NAME)) {
                return false;
            }
            int log = logNamed(taken());
            if (log == NONE) {
                failLater(UNKNOWN_NAME);
            } else if (Integer.bitCount(plan.notchesOf(log)) >= MOST_NOTCHES_OF_A_LOG) {
                failLater(FULL);
            }
            plan.notchLog[plan.notches] = log;
            if (!readTo() || !takeNumber(0, MOST_WIDTH)) {
                return false;
            }
            plan.first.wide[plan.notches] = (int) taken();
            plan.notches++;
            return take(Tokens.SEMICOLON);
        }

        private boolean readTo() {
            if (kind() == Tokens.RIVER) {
                plan.notchTo[plan.notches] = TO_RIVER;
                return pass();
            }
            if (!take(Tokens.NAME)) {
                return false;
            }
            int log = logNamed(taken());
            int field = fieldNamed(taken());
            if (log == NONE && field == NONE) {
                failLater(UNKNOWN_NAME);
            }
            plan.notchTo[plan.notches] = log != NONE ? log : TO_FIELD + field;
            return true;
        }

        private boolean readDrain() {
            if (!pass() || !take(Tokens.NAME)) {
                return false;
            }
            int field = fieldNamed(taken());
            if (field == NONE) {
                failLater(UNKNOWN_NAME);
            }
            if (!take(Tokens.NAME)) {
                return false;
            }
            int log = logNamed(taken());
            if (log == NONE) {
                failLater(UNKNOWN_NAME);
            }
            if (!takeNumber(0, MOST_QUARTERS)) {
                return false;
            }
            if (field != NONE) {
                plan.first.drainLog[field] = log;
                plan.first.quarters[field] = (int) taken();
            }
            return take(Tokens.SEMICOLON);
        }

        private boolean readSpring() {
            if (!pass() || !takeNumber(1, MOST_SPRING)) {
                return false;
            }
            plan.first.spring = (int) taken();
            return take(Tokens.SEMICOLON);
        }

        private boolean readSeed() {
            if (!pass() || !take(Tokens.INT)) {
                return false;
            }
            plan.seed = (int) taken();
            return take(Tokens.SEMICOLON);
        }

        private boolean readLaw(int law) {
            if (!pass() || !take(Tokens.EQUALS)) {
                return false;
            }
            plan.lawStart[law] = plan.codes;
            for (int ifs = 0; ifs <= MOST_IFS && kind() == Tokens.IF; ifs++) {
                if (ifs == MOST_IFS) {
                    return fail(ROOM);
                }
                if (!pass() || !readSum() || !take(Tokens.LESS_THAN)
                        || !readSum() || !takeAsCode(Tokens.THEN, Plan.THEN)
                        || !readSum() || !takeAsCode(Tokens.ELSE, Plan.ELSE)) {
                    return false;
                }
            }
            return readSum() && takeAsCode(Tokens.SEMICOLON, Plan.END);
        }

        private boolean takeAsCode(int kind, int code) {
            if (kind() != kind) {
                return fail(SYNTAX);
            }
            plan.addCode(code);
            return pass();
        }

        /** An E, up to the TOKEN behind it. What joins comes behind what it joins in the code. */
        private boolean readSum() {
            int open = 0;
            boolean wantsUnit = true;
            waits = 0;
            for (int i = 0; i <= MOST_TOKENS; i++) {
                int kind = kind();
                if (wantsUnit && kind == Tokens.OPENING) {
                    if (open == MOST_OPEN) {
                        return fail(ROOM);
                    }
                    open++;
                    putWaiting(kind);
                } else if (wantsUnit) {
                    if (!addUnit(kind)) {
                        return fail(SYNTAX);
                    }
                    wantsUnit = false;
                } else if (rank(kind) > 0) {
                    addWaiting(rank(kind));
                    putWaiting(kind);
                    wantsUnit = true;
                } else if (kind == Tokens.CLOSING && open > 0) {
                    addWaiting(1);
                    open--;
                    waits--;
                } else {
                    addWaiting(1);
                    return open == 0 || fail(SYNTAX);
                }
                if (!pass()) {
                    return false;
                }
            }
            return fail(ROOM);
        }

        private boolean addUnit(int kind) {
            if (kind == Tokens.INT) {
                plan.addCode((int) tokens.value[next]);
                return true;
            }
            if (kind >= Tokens.FLOW && kind <= Tokens.FIELDS) {
                plan.addCode(Plan.VAR + kind - Tokens.FLOW);
                return true;
            }
            return false;
        }

        private static int rank(int kind) {
            if (kind == Tokens.TIMES || kind == Tokens.SLASH) {
                return 2;
            }
            return kind == Tokens.PLUS || kind == Tokens.MINUS ? 1 : 0;
        }

        private void putWaiting(int kind) {
            if (waits < MOST_WAITING) {
                waiting[waits] = kind;
                waits++;
            }
        }

        /** What waits behind the last open ( and joins at least as closely goes into the code. */
        private void addWaiting(int leastRank) {
            while (waits > 0 && rank(waiting[waits - 1]) >= leastRank) {
                waits--;
                plan.addCode(Plan.ADD + waiting[waits] - Tokens.PLUS);
            }
        }
    }
}
