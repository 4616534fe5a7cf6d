/** Promises 1 to 5: a new object, the tape, and what read and place say of it. */
final class BoundsTapeTest {
    private static final Bounds BOUNDS = new Bounds();
    private static final int LOG_ = 0x6c6f6720;
    private static final int BLANKS = 0x20202020;

    public static void main(String[] args) {
        aNewObject();
        twentyBytes();
        behindTheTape();
        noMoreThan2000();
        theLastOnesGo();
        notSoMany();
        emptyThen();
        orTheNumberOfItsFault();
        thePlaceOfTheLatest();
        a2000thByte();
        the512thCall();
        BOUNDS.end();
    }

    private static void aNewObject() {
        BOUNDS.sentence(1, "No LOGS, no FIELDS; SPRING 8.");
        SluiceLogs logs = new SluiceLogs();
        BOUNDS.is("LOGS", logs.count(0), 0);
        BOUNDS.is("LOG 0", logs.log(0, 3), -1);
        BOUNDS.is("FIELDS", logs.count(1), 0);
        BOUNDS.is("FIELD 0", logs.field(0, 6), -1);
        BOUNDS.is("NOTCHES", logs.count(2), 0);
        BOUNDS.is("NOTCH 0", logs.notch(0, 2), -1);
        BOUNDS.is("SPRING", logs.count(5), 8);
        BOUNDS.is("spring(8)", logs.spring(8), false);
        BOUNDS.asMade("spring(8)", SluiceLogs::new, logs);
        BOUNDS.is("spring(7)", new SluiceLogs().spring(7), true);
        BOUNDS.asMade("as by the empty text", () -> BOUNDS.of(""), new SluiceLogs());
    }

    /** Blanks but for one byte, which is no TOKEN. */
    private static int[] oneByteAt(int place) {
        int[] fours = {BLANKS, BLANKS, BLANKS, BLANKS, BLANKS};
        int down = 24 - 8 * (place % 4);
        fours[place / 4] = BLANKS & ~(255 << down) | '!' << down;
        return fours;
    }

    private static void twentyBytes() {
        BOUNDS.sentence(2, "Twenty bytes, the highest of a first, come behind the tape: how many it has.");
        SluiceLogs logs = new SluiceLogs();
        for (int place = 0; place < 20; place++) {
            int[] fours = oneByteAt(place);
            BOUNDS.is("feed", logs.feed(fours[0], fours[1], fours[2], fours[3], fours[4]), 20);
            BOUNDS.is("read with byte " + place, logs.read(), 1);
            BOUNDS.is("place of byte " + place, logs.place(), place);
        }
        BOUNDS.is("feed of bytes 255", logs.feed(-1, -1, -1, -1, -1), 20);
        BOUNDS.is("read", logs.read(), 1);
        BOUNDS.is("place", logs.place(), 0);
        BOUNDS.is("feed of bytes 0", logs.feed(0, 0, 0, 0, 0), 20);
        BOUNDS.is("read", logs.read(), 1);
        BOUNDS.is("place", logs.place(), 0);
    }

    private static void behindTheTape() {
        BOUNDS.sentence(2, "Twenty bytes, the highest of a first, come behind the tape: how many it has.");
        for (int taken = 0; taken <= 20; taken++) {
            SluiceLogs logs = new SluiceLogs();
            logs.feed(BLANKS, BLANKS, BLANKS, BLANKS, BLANKS);
            logs.back(taken);
            int[] fours = oneByteAt(3);
            BOUNDS.is("feed", logs.feed(fours[0], fours[1], fours[2], fours[3], fours[4]), 40 - taken);
            BOUNDS.is("count(8)", logs.count(8), 40 - taken);
            logs.read();
            BOUNDS.is("place", logs.place(), 20 - taken + 3);
        }
    }

    /** "log a;" and blanks up to so many bytes. */
    private static SluiceLogs filledTo(int bytes) {
        SluiceLogs logs = new SluiceLogs();
        Due.type(logs, "log a;" + " ".repeat(bytes - 6));
        return logs;
    }

    private static void noMoreThan2000() {
        BOUNDS.sentence(2, "NONE, and nothing comes, if it would have more than 2,000.");
        SluiceLogs logs = new SluiceLogs();
        for (int i = 1; i <= 100; i++) {
            BOUNDS.is("feed " + i, logs.feed(BLANKS, BLANKS, BLANKS, BLANKS, BLANKS), 20 * i);
        }
        BOUNDS.is("feed 101", logs.feed(BLANKS, BLANKS, BLANKS, BLANKS, BLANKS), -1);
        BOUNDS.is("count(8)", logs.count(8), 2000);
        BOUNDS.is("feed behind 1980", filledTo(1980).feed(LOG_, LOG_, LOG_, LOG_, LOG_), 2000);
        for (int bytes : new int[] {1981, 1999, 2000}) {
            BOUNDS.refused("feed behind " + bytes, () -> filledTo(bytes), x -> x.feed(LOG_, LOG_, LOG_, LOG_, LOG_), -1);
        }
    }

    private static SluiceLogs of13Bytes() {
        SluiceLogs logs = new SluiceLogs();
        Due.type(logs, "log a; log b;");
        return logs;
    }

    private static void theLastOnesGo() {
        BOUNDS.sentence(3, "The last n bytes of the tape go: how many it has.");
        int[] places = {-1, 12, 11, 10, 7, 7, -1, -1, 5, 4, 3, 0, 0, -1};
        for (int n = 0; n <= 13; n++) {
            SluiceLogs logs = of13Bytes();
            BOUNDS.is("back(" + n + ")", logs.back(n), 13 - n);
            BOUNDS.is("count(8)", logs.count(8), 13 - n);
            BOUNDS.is("read", logs.read(), places[n] == -1 ? 0 : 1);
            BOUNDS.is("place", logs.place(), places[n]);
            BOUNDS.is("LOGS", logs.count(0), n == 0 ? 2 : n == 6 || n == 7 ? 1 : 0);
        }
    }

    private static void notSoMany() {
        BOUNDS.sentence(3, "NONE, and nothing goes, if it has not so many, or n is below 0.");
        BOUNDS.is("back(0) of none", new SluiceLogs().back(0), 0);
        BOUNDS.refused("back(1) of none", SluiceLogs::new, x -> x.back(1), -1);
        BOUNDS.is("back(13) of 13", of13Bytes().back(13), 0);
        for (int n : new int[] {14, 20, 2001, Integer.MAX_VALUE, -1, -13, Integer.MIN_VALUE}) {
            BOUNDS.refused("back(" + n + ") of 13", BoundsTapeTest::of13Bytes, x -> x.back(n), -1);
        }
        BOUNDS.is("back(2000) of 2000", filledTo(2000).back(2000), 0);
        BOUNDS.refused("back(2001) of 2000", () -> filledTo(2000), x -> x.back(2001), -1);
    }

    private static void emptyThen() {
        BOUNDS.sentence(4, "The tape, which is empty then, is read");
        for (String text : new String[] {"", "log a; log b;", "log a; log b", " ".repeat(2000), "!".repeat(2000)}) {
            SluiceLogs logs = new SluiceLogs();
            Due.type(logs, text);
            BOUNDS.is("count(8) ahead", logs.count(8), text.length());
            logs.read();
            BOUNDS.is("count(8) behind", logs.count(8), 0);
            BOUNDS.is("back(1)", logs.back(1), -1);
            BOUNDS.is("feed", logs.feed(BLANKS, BLANKS, BLANKS, BLANKS, BLANKS), 20);
        }
        SluiceLogs again = of13Bytes();
        again.read();
        BOUNDS.is("LOGS", again.count(0), 2);
        BOUNDS.is("read of the tape that is empty then", again.read(), 0);
        BOUNDS.is("LOGS", again.count(0), 0);
    }

    private static void orTheNumberOfItsFault() {
        BOUNDS.sentence(4, "0, or the number of its FAULT.");
        BOUNDS.fault("log a;", 0, -1);
        BOUNDS.fault("log a", 1, 5);
        BOUNDS.fault("log a; log b; log c; log d; log e;", 2, 28);
        BOUNDS.fault("log a; log a;", 3, 11);
        BOUNDS.fault("log a; notch b a 1;", 4, 13);
        BOUNDS.fault("spring 0;", 5, 7);
        BOUNDS.fault("log a; notch a a 1; notch a a 1; notch a a 1; notch a a 1;", 6, 52);
    }

    private static void thePlaceOfTheLatest() {
        BOUNDS.sentence(5, "The byte of the latest read()'s FAULT; NONE without.");
        SluiceLogs logs = new SluiceLogs();
        BOUNDS.is("without any read", logs.place(), -1);
        Due.type(logs, "log a; !");
        BOUNDS.is("before the read", logs.place(), -1);
        logs.read();
        BOUNDS.is("behind the read", logs.place(), 7);
        BOUNDS.is("asked again", logs.place(), 7);
        Due.type(logs, "!");
        BOUNDS.is("the tape alone changes nothing", logs.place(), 7);
        logs.read();
        BOUNDS.is("the latest, at byte 0", logs.place(), 0);
        BOUNDS.is("a good read", logs.read(), 0);
        BOUNDS.is("behind a good one", logs.place(), -1);
        Due.type(logs, "log");
        logs.read();
        BOUNDS.is("at the end", logs.place(), 3);
        logs.days(1);
        logs.undo();
        BOUNDS.is("as the latest said", logs.place(), 3);
    }

    private static void a2000thByte() {
        BOUNDS.sentence(4, "A TEXT has 2,000 bytes at most.");
        BOUNDS.good(" ".repeat(1994) + "log a;");
        BOUNDS.fault(" ".repeat(1995) + "log a", 1, 2000);
        BOUNDS.fault(" ".repeat(1999) + "!", 1, 1999);
        BOUNDS.fault(" ".repeat(1994) + "log a!", 1, 1999);
        SluiceLogs logs = new SluiceLogs();
        Due.type(logs, "field f 1;" + " ".repeat(1970) + "field abcdefgh 0099;");
        BOUNDS.is("read of 2000 bytes", logs.read(), 0);
        BOUNDS.is("FIELDS", logs.count(1), 2);
        BOUNDS.is("the last AREA", logs.field(1, 3), 99);
    }

    private static void the512thCall() {
        BOUNDS.sentence(12, "An object is used for at most 512 calls after it has been made");
        SluiceLogs days = new SluiceLogs();
        for (int call = 1; call <= 511; call++) {
            days.days(60);
        }
        BOUNDS.is("day, by call 512", days.count(3), 511 * 60);
        SluiceLogs springs = new SluiceLogs();
        for (int call = 1; call <= 511; call++) {
            springs.spring(1 + call % 2);
        }
        BOUNDS.is("undo, by call 512", springs.undo(), true);
        SluiceLogs paid = new SluiceLogs();
        Due.type(paid, "log a; notch a river 0; costs = 99;");
        paid.read();
        for (int call = 5; call <= 511; call++) {
            BOUNDS.is("step, by call " + call, paid.step(0, call % 2 == 1), 99);
        }
        BOUNDS.is("paid, by call 512", paid.count(4), 507 * 99);
    }
}
