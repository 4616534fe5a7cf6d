/**
 * All that can be seen of an object but the place of its latest read, told as one text; the object is used up by it,
 * in some three hundred calls.
 */
final class Everything {
    private final SluiceLogs logs;
    private final StringBuilder told = new StringBuilder();

    private Everything(SluiceLogs logs) {
        this.logs = logs;
    }

    static String of(SluiceLogs logs) {
        Everything all = new Everything(logs);
        all.counts();
        all.numbered();
        all.whatWasTold();
        all.whatCanBeUndone();
        all.whatIsHeld();
        all.whatIsOnTheTape();
        return all.told.toString();
    }

    private void tell(String call, long answer) {
        told.append(call).append(' ').append(answer).append("; ");
    }

    private void counts() {
        for (int what = 0; what <= 13; what++) {
            tell("count " + what, logs.count(what));
        }
        for (int what = 0; what <= 3; what++) {
            tell("river " + what, logs.river(what));
        }
        tell("round", logs.round());
        tell("lacking", logs.lacking());
        tell("dry", logs.dry());
    }

    private void numbered() {
        for (int log = 0; log < logs.count(0); log++) {
            for (int what = 0; what <= 3; what++) {
                tell("log " + log + " " + what, logs.log(log, what));
            }
        }
        for (int field = 0; field < logs.count(1); field++) {
            for (int what = 0; what <= 9; what++) {
                tell("field " + field + " " + what, logs.field(field, what));
            }
        }
        for (int notch = 0; notch < logs.count(2); notch++) {
            for (int what = 0; what <= 4; what++) {
                tell("notch " + notch + " " + what, logs.notch(notch, what));
            }
        }
    }

    private void whatWasTold() {
        for (int k = 0; k <= 20; k++) {
            int fits = logs.fits(k, 1);
            if (fits == -1) {
                break;
            }
            tell("fits " + k, fits);
        }
        tell("forget", logs.forget());
    }

    /** The LOTS to come are told by what the WIDTHS would be. */
    private void goesOn() {
        for (int what : new int[] {3, 4, 5, 7, 9, 12, 13}) {
            tell("count " + what, logs.count(what));
        }
        for (int field = 0; field < logs.count(1); field++) {
            tell("quarters", logs.field(field, 7));
            tell("to", logs.field(field, 8));
        }
        for (int notch = 0; notch < logs.count(2); notch++) {
            tell("wide", logs.notch(notch, 2));
            tell("wideIn 5", logs.wideIn(notch, 5));
        }
    }

    private void whatCanBeUndone() {
        for (int undone = 0; undone <= 40; undone++) {
            boolean was = logs.undo();
            tell("undo", was ? 1 : 0);
            if (!was) {
                break;
            }
            goesOn();
        }
    }

    private void whatIsHeld() {
        for (int slot = 0; slot <= 2; slot++) {
            boolean was = logs.restore(slot);
            tell("restore " + slot, was ? 1 : 0);
            if (was) {
                goesOn();
            }
        }
    }

    private void whatIsOnTheTape() {
        tell("read", logs.read());
        tell("place", logs.place());
        tell("restore", logs.restore(0) ? 1 : 0);
        for (int what = 0; what <= 13; what++) {
            tell("count " + what, logs.count(what));
        }
    }
}
