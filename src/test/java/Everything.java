/** All that a box answers, as one text; telling it uses the box up. */
final class Everything {
    private static final int CHIPS = 5;
    private static final int UNDONE = 3;
    private static final int BYTES = 20;

    private final KaleidoscopeBox box;
    private final StringBuilder text = new StringBuilder();

    private Everything(KaleidoscopeBox box) {
        this.box = box;
    }

    static String of(KaleidoscopeBox box) {
        Everything all = new Everything(box);
        all.accounts();
        all.texts();
        all.states();
        return all.text.toString();
    }

    static String butAccounts(KaleidoscopeBox box) {
        Everything all = new Everything(box);
        all.texts();
        all.states();
        return all.text.toString();
    }

    static String butTexts(KaleidoscopeBox box) {
        Everything all = new Everything(box);
        all.accounts();
        all.output();
        all.states();
        return all.text.toString();
    }

    /** What acts can change, alone. */
    static String ofState(KaleidoscopeBox box) {
        Everything all = new Everything(box);
        all.state();
        return all.text.toString();
    }

    private void told(String name, long answer) {
        text.append(name).append(' ').append(answer).append('\n');
    }

    private void accounts() {
        for (int what = 0; what <= 5; what++) {
            told("account " + what, box.account(what));
        }
    }

    /** The text itself shows in its error. */
    private void texts() {
        told("code", box.errorCode());
        told("position", box.errorPosition());
        output();
        told("load", box.load());
        told("code of the text", box.errorCode());
        told("position in the text", box.errorPosition());
    }

    private void output() {
        for (int i = 0; i < BYTES; i++) {
            told("output " + i, box.output(i));
        }
    }

    private void states() {
        told("undoable", box.count(15));
        state();
        saved(0);
        saved(1);
        for (int i = 0; i < UNDONE; i++) {
            int left = box.undo();
            told("undo", left);
            if (left != KaleidoscopeBox.NONE) {
                state();
            }
        }
        restored(0);
        restored(1);
    }

    private void state() {
        for (int what = 0; what < 15; what++) {
            told("count " + what, box.count(what));
        }
        for (int chip = 0; chip < Math.min(CHIPS, box.count(5)); chip++) {
            for (int what = 0; what <= 5; what++) {
                told("chip " + chip + " " + what, box.chip(chip, what));
            }
        }
        told("light", box.light());
    }

    private void saved(int slot) {
        try {
            told("matches " + slot, box.matches(slot));
        } catch (IllegalStateException e) {
            text.append("nothing saved\n");
        }
    }

    private void restored(int slot) {
        try {
            box.restore(slot);
            state();
        } catch (IllegalStateException e) {
            text.append("nothing saved\n");
        }
    }
}
