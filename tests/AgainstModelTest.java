import java.util.Random;
import java.util.function.LongSupplier;

/** Runs of calls by seeds: SluiceLogs and the Model must answer alike. */
final class AgainstModelTest {
    /** Numbers with which a sum, a product or a shift might come back among the good ones. */
    private static final int[] STRANGE = {Integer.MIN_VALUE, Integer.MIN_VALUE + 1, -0x40000000, -33, -32, -3, -2, 13, 20,
        31, 32, 33, 61, 64, 1000, 0x08000000, 0x40000000, 0x55555556, Integer.MAX_VALUE - 1, Integer.MAX_VALUE};
    private final Random random;
    private final RandomText texts;
    private final SluiceLogs logs = new SluiceLogs();
    private final Model model = new Model();
    private final int run;
    private final StringBuilder told = new StringBuilder();
    private int wrong = 0;

    AgainstModelTest(int run) {
        this.run = run;
        random = new Random(run);
        texts = new RandomText(random);
    }

    public static void main(String[] args) {
        int from = args.length > 0 ? Integer.parseInt(args[0]) : 0;
        int to = args.length > 1 ? Integer.parseInt(args[1]) : 250;
        int wrong = 0;
        for (int run = from; run < to; run++) {
            AgainstModelTest test = new AgainstModelTest(run);
            test.readSpoilt(20);
            test.go();
            wrong += test.wrong;
        }
        System.out.println((to - from) + " runs, " + wrong + " answers not alike");
        if (wrong != 0) {
            System.exit(1);
        }
    }

    private void alike(String call, LongSupplier got, LongSupplier want) {
        told.append(call).append('\n');
        long g = got.getAsLong();
        long w = want.getAsLong();
        if (g != w) {
            wrong++;
            if (wrong == 1) {
                System.out.println(told);
                System.out.println("run " + run + ": " + call + " answered " + g + ", the model " + w);
            }
        }
    }

    private int from(int least, int most) {
        return least + random.nextInt(most - least + 1);
    }

    private int orStrange(int usual) {
        return random.nextInt(25) == 0 ? STRANGE[random.nextInt(STRANGE.length)] : usual;
    }

    private static long bit(boolean is) {
        return is ? 1 : 0;
    }

    private void read(String text) {
        told.append(text).append('\n');
        String whole = text + "#".repeat((20 - text.length() % 20) % 20);
        for (int at = 0; at < whole.length(); at += 20) {
            int[] f = new int[5];
            for (int i = 0; i < 20; i++) {
                f[i / 4] = f[i / 4] << 8 | whole.charAt(at + i) & 255;
            }
            alike("feed", () -> logs.feed(f[0], f[1], f[2], f[3], f[4]), () -> model.feed(f[0], f[1], f[2], f[3], f[4]));
        }
        int fill = whole.length() - text.length();
        alike("back " + fill, () -> logs.back(fill), () -> model.back(fill));
        alike("read", logs::read, model::read);
        alike("place", logs::place, model::place);
    }

    private void readSpoilt(int many) {
        for (int i = 0; i < many; i++) {
            read(texts.join(texts.spoiltTokens()));
            alike("count 2", () -> logs.count(2), () -> model.count(2));
        }
    }

    private void go() {
        for (int turn = 0; turn < 3; turn++) {
            told.setLength(0);
            read(texts.join(texts.goodTokens()));
            for (int call = 0; call < 60; call++) {
                change(from(0, 9));
                ask(from(0, 21));
                ask(from(0, 21));
            }
            lookAtAll();
            mend();
        }
    }

    private int field() {
        return orStrange(from(-1, 6));
    }

    private int notch() {
        return orStrange(from(-1, 12));
    }

    private int daysAhead() {
        return orStrange(random.nextInt(9) == 0 ? from(-1, 61) : from(0, 12));
    }

    private void change(int which) {
        int f = field();
        int n = notch();
        int a = orStrange(from(-1, 4));
        int b = orStrange(from(-1, 4));
        boolean so = random.nextBoolean();
        switch (which) {
            case 0, 1, 2 -> alike("step " + n + so, () -> logs.step(n, so), () -> model.step(n, so));
            case 3 -> alike("drain " + f + " " + a + " " + b, () -> bit(logs.drain(f, a, b)), () -> bit(model.drain(f, a, b)));
            case 4 -> {
                int spring = orStrange(from(0, 10));
                alike("spring " + spring, () -> bit(logs.spring(spring)), () -> bit(model.spring(spring)));
            }
            case 5 -> {
                int days = daysAhead();
                alike("days " + days, () -> logs.days(days), () -> model.days(days));
            }
            case 6 -> alike("undo", () -> bit(logs.undo()), () -> bit(model.undo()));
            case 7 -> alike("hold " + a, () -> bit(logs.hold(a)), () -> bit(model.hold(a)));
            case 8 -> alike("restore " + a, () -> bit(logs.restore(a)), () -> bit(model.restore(a)));
            default -> {
                alike("tell " + f + " " + a + so, () -> logs.tell(f, a, so), () -> model.tell(f, a, so));
                if (random.nextInt(20) == 0) {
                    alike("forget", logs::forget, model::forget);
                }
            }
        }
    }

    private void ask(int which) {
        int f = field();
        int n = notch();
        int k = orStrange(from(-1, Math.max(1, logs.count(10)) + 1));
        int d = daysAhead();
        int w = orStrange(from(-1, 2));
        boolean cut = random.nextBoolean();
        String with = " f " + f + " n " + n + " k " + k + " d " + d + " w " + w + " " + cut;
        switch (which) {
            case 0 -> alike("round", logs::round, model::round);
            case 1 -> alike("lacking", logs::lacking, model::lacking);
            case 2 -> alike("dry", logs::dry, model::dry);
            case 3 -> alike("feels" + with, () -> logs.feels(n, cut, f), () -> model.feels(n, cut, f));
            case 4 -> alike("unfelt", logs::unfelt, model::unfelt);
            case 5, 6 -> alike("best" + with, () -> logs.best(f, w), () -> model.best(f, w));
            case 7 -> alike("tempted", logs::tempted, model::tempted);
            case 8 -> alike("feeds" + with, () -> logs.feeds(f), () -> model.feeds(f));
            case 9 -> alike("hangs" + with, () -> logs.hangs(f), () -> model.hangs(f));
            case 10 -> alike("spread", logs::spread, model::spread);
            case 11 -> alike("richest", logs::richest, model::richest);
            case 12 -> alike("crop" + with, () -> logs.crop(d), () -> model.crop(d));
            case 13 -> alike("again" + with, () -> logs.again(f, w + 1), () -> model.again(f, w + 1));
            case 14 -> alike("swap", logs::swap, model::swap);
            case 15 -> alike("grownIn" + with, () -> logs.grownIn(f, d), () -> model.grownIn(f, d));
            case 16 -> alike("wideIn" + with, () -> logs.wideIn(n, d), () -> model.wideIn(n, d));
            case 17 -> {
                int s = orStrange(random.nextInt(5) == 0 ? from(-1, 21) : from(1, 4));
                alike("year s " + s + with, () -> logs.year(f, d, s), () -> model.year(f, d, s));
            }
            case 18, 19 -> alike("fits" + with, () -> logs.fits(k, w), () -> model.fits(k, w));
            case 20 -> alike("ask" + with, () -> logs.ask(k), () -> model.ask(k));
            default -> lookAtAll();
        }
    }

    private void lookAtAll() {
        for (int what = -1; what <= 14; what++) {
            int w = what;
            alike("count " + w, () -> logs.count(w), () -> model.count(w));
            alike("river " + w, () -> logs.river(w), () -> model.river(w));
            for (int i = -1; i <= 12; i++) {
                int j = i;
                alike("log " + j + " " + w, () -> logs.log(j, w), () -> model.log(j, w));
                alike("field " + j + " " + w, () -> logs.field(j, w), () -> model.field(j, w));
                alike("notch " + j + " " + w, () -> logs.notch(j, w), () -> model.notch(j, w));
            }
        }
    }

    /** By itself, as the Model takes long for it. */
    private void mend() {
        for (int i = -2; i <= 3; i++) {
            int j = i == 3 ? orStrange(i) : i;
            if (logs.count(2) < 7 || i == -1 && run % 20 == 0) {
                alike("mend " + j, () -> logs.mend(j), () -> model.mend(j));
            }
        }
    }
}
