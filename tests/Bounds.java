import java.io.IOException;
import java.nio.file.Files;
import java.nio.file.Path;

/**
 * What the tests of the document's boundaries share: each test names a promise and the sentence of the document that
 * it holds the class to, and the words of that sentence must stand there, under that promise or in the TERMS.
 */
final class Bounds {
    interface Made {
        SluiceLogs anew();
    }

    interface Call {
        long on(SluiceLogs logs);
    }

    private static final Path DOCUMENT = Path.of("../shared/DOC.md");
    private static final String BEHIND_TERMS = "## Promise 1:";

    private final Due due = new Due();
    private final String document = document();
    private String sentence = "";

    /** Empty where the document is not at hand: the answers are held to what is due all the same. */
    private static String document() {
        try {
            return plain(Files.readString(DOCUMENT));
        } catch (IOException unread) {
            System.out.println("the sentences are not looked up: " + unread);
            return "";
        }
    }

    private static String plain(String text) {
        return text.replaceAll("\\s+", " ");
    }

    /** To be called first in each test: what is wrong from here on is told with the promise and its sentence. */
    void sentence(int promise, String words) {
        sentence = "promise " + promise + ", \"" + words + "\": ";
        if (document.isEmpty()) {
            return;
        }
        String terms = document.substring(0, document.indexOf(BEHIND_TERMS));
        int start = document.indexOf("## Promise " + promise + ":");
        int end = document.indexOf("## ", start + 1);
        String asked = start < 0 || end < 0 ? "" : document.substring(start, end);
        is("the words stand in the document", asked.contains(plain(words)) || terms.contains(plain(words)), true);
    }

    void is(String call, long got, long want) {
        due.due(sentence + (call.length() > 300 ? call.substring(0, 300) + ".." : call), got, want);
    }

    void is(String call, boolean got, boolean want) {
        is(call, got ? 1 : 0, want ? 1 : 0);
    }

    /** A new object that has read a text without a FAULT. */
    SluiceLogs of(String text) {
        SluiceLogs logs = new SluiceLogs();
        Due.type(logs, text);
        is("read of " + text, logs.read(), 0);
        is("place in " + text, logs.place(), -1);
        return logs;
    }

    /** That a text has this FAULT at this place. */
    void fault(String text, int fault, int place) {
        SluiceLogs logs = new SluiceLogs();
        Due.type(logs, text);
        is("read of " + text, logs.read(), fault);
        is("place in " + text, logs.place(), place);
    }

    void good(String text) {
        fault(text, 0, -1);
    }

    /** That a call answers so, and all is as it would be without it. */
    void refused(String call, Made made, Call refused, long want) {
        SluiceLogs logs = made.anew();
        int place = logs.place();
        is(call, refused.on(logs), want);
        is(call + ": place is as it was", logs.place(), place);
        asMade(call, made, logs);
    }

    /** That an object, which is used up by this, answers all as one that was made so, but for the place of its latest read. */
    void asMade(String call, Made made, SluiceLogs logs) {
        String want = Everything.of(made.anew());
        String got = Everything.of(logs);
        is(call + ": all is as it was: " + apart(got, want), got.equals(want), true);
    }

    private static String apart(String got, String want) {
        int at = 0;
        while (at < got.length() && at < want.length() && got.charAt(at) == want.charAt(at)) {
            at++;
        }
        int from = Math.max(0, at - 40);
        return got.substring(from, Math.min(got.length(), at + 20)) + " is not "
                + want.substring(from, Math.min(want.length(), at + 20));
    }

    /** A LOG's or a FIELD's fraction. */
    void fraction(String call, int over, int under, int wantOver, int wantUnder) {
        is(call + " over", over, wantOver);
        is(call + " under", under, wantUnder);
    }

    /** To be called last. */
    void end() {
        due.end();
    }
}
