/** What the tests share: objects that have read a text, and answers held against those that are due. */
final class Due {
    private int wrong = 0;
    private int asked = 0;

    void due(String call, long got, long want) {
        asked++;
        if (got != want) {
            wrong++;
            System.out.println(call + " answered " + got + ", due is " + want);
        }
    }

    void due(String call, boolean got, boolean want) {
        due(call, got ? 1 : 0, want ? 1 : 0);
    }

    /** To be called last: ends with exit code 1 if an answer was wrong, or none was asked for. */
    void end() {
        System.out.println(asked + " answers, " + wrong + " not as due");
        if (wrong != 0 || asked == 0) {
            System.exit(1);
        }
    }

    /** Puts a text on the tape, as feed and back can. */
    static void type(SluiceLogs logs, String text) {
        int fill = (20 - text.length() % 20) % 20;
        StringBuilder whole = new StringBuilder(text);
        for (int i = 0; i < fill; i++) {
            whole.append('#');
        }
        for (int at = 0; at < whole.length(); at += 20) {
            int[] fours = new int[5];
            for (int i = 0; i < 20; i++) {
                fours[i / 4] = fours[i / 4] << 8 | (whole.charAt(at + i) & 255);
            }
            logs.feed(fours[0], fours[1], fours[2], fours[3], fours[4]);
        }
        logs.back(fill);
    }

    /** A new object that has read a text without a FAULT. */
    SluiceLogs of(String text) {
        SluiceLogs logs = new SluiceLogs();
        type(logs, text);
        due("read of " + text, logs.read(), 0);
        return logs;
    }

    /** That a text has this FAULT at this place. */
    void fault(String text, int fault, int place) {
        SluiceLogs logs = new SluiceLogs();
        type(logs, text);
        due("read of " + text, logs.read(), fault);
        due("place in " + text, logs.place(), place);
    }
}
