import java.util.function.ToIntFunction;

/** The terms ACTS and EXCEPTIONS. */
final class ActSentences extends Sentences {
    private interface Call {
        void on(KaleidoscopeBox box);
    }

    @Override
    void tests() {
        acts();
        refusals();
        undone();
        exceptions();
        fullText();
        ahead();
        constants();
    }

    /** A box with something of everything: chips, acts, refusals, an error, an output, a saved state, a text. */
    private static KaleidoscopeBox busy() {
        KaleidoscopeBox b = box("angle 90 radius 1; down 6; keep 70; glass 1 2 0 1; bubble 2 3 1 0; pin 3 4 1 1;");
        b.save(0);
        b.write();
        Due.load(b, "angle 9");
        b.take(2);
        b.take(2);
        b.paint(0, 5);
        Due.put(b, "  x");
        return b;
    }

    /** As busy(), and no chip can come any more. */
    private static KaleidoscopeBox crowded() {
        KaleidoscopeBox b = busy();
        for (int chip = 3; chip < 30; chip++) {
            b.add(3, 1, 1, 1, 1);
            b.take(chip);
        }
        return b;
    }

    private static KaleidoscopeBox resting() {
        KaleidoscopeBox b = busy();
        b.settle();
        return b;
    }

    private void acts() {
        at("ACTS");
        test("Acts are the methods from add() to setKeep().", () -> {
            KaleidoscopeBox b = box("angle 90 radius 2; down 6; glass 1 1 0 2; pin 1 1 2 2;");
            b.add(3, 1, 1, 1, 1);
            is(1, b.count(15));
            b.take(2);
            is(2, b.count(15));
            b.push(1, 6);
            is(3, b.count(15));
            b.paint(1, 1);
            is(4, b.count(15));
            b.turn(1);
            b.turn(7);
            is(6, b.count(15));
            b.tick();
            is(7, b.count(15));
            b.settle();
            is(8, b.count(15));
            b.undo();
            b.undo();
            b.cover(0, true);
            is(7, b.count(15));
            b.setKeep(90);
            is(8, b.count(15));
            is(10, b.account(0));
        });
        test("the methods from add() to setKeep()", () -> {
            KaleidoscopeBox b = box("angle 90 radius 2; down 6; glass 1 1 0 2; pin 1 1 2 2;");
            b.save(0);
            b.moves();
            b.settled(1, 0);
            b.bestTurn(1);
            b.period(1);
            b.restsAt(0, true);
            b.write();
            b.appendText(0);
            b.truncateText(0);
            is(0, b.count(15));
            is(0, b.account(0));
            b.turn(1);
            b.undo();
            is(0, b.count(15));
            is(1, b.account(0));
            b.restore(0);
            Due.load(b, "angle 30 radius 1;");
            is(1, b.account(0));
        });
        test("(the first one that applies of those named at the method)", () -> {
            KaleidoscopeBox b = crowded();
            is(-1, b.add(3, 1, 1, 0, 1));
            is(-1, b.add(3, 1, 1, 0, 0));
            is(0, b.account(2));
            is(-3, b.push(2, 0));
            is(0, b.account(4));
        });
    }

    private void refused(int reason, ToIntFunction<KaleidoscopeBox> act, KaleidoscopeBox one, KaleidoscopeBox same) {
        int refusals = one.account(reason);
        int others = accounts(one) - refusals;
        is(-reason, act.applyAsInt(one));
        is(refusals + 1, one.account(reason));
        is(others, accounts(one) - one.account(reason));
        isText(Everything.butAccounts(same), Everything.butAccounts(one));
    }

    private static int accounts(KaleidoscopeBox b) {
        int sum = 0;
        for (int what = 0; what <= 5; what++) {
            sum += b.account(what) * (what == 0 ? 100 : 1);
        }
        return sum;
    }

    private void refusals() {
        at("ACTS");
        test("what is refused changes nothing but the accounts.", () -> {
            refused(1, b -> b.add(0, 9, 9, 1, 1), crowded(), crowded());
            refused(2, b -> b.add(0, 9, 9, 1, 0), busy(), busy());
            refused(3, b -> b.take(2), busy(), busy());
            refused(3, b -> b.push(2, 0), busy(), busy());
            refused(4, b -> b.push(0, 2), busy(), busy());
            refused(2, b -> b.push(0, 7), busy(), busy());
            refused(3, b -> b.paint(2, 9), busy(), busy());
            refused(5, KaleidoscopeBox::tick, resting(), resting());
            refused(5, KaleidoscopeBox::settle, resting(), resting());
            refused(4, b -> b.cover(0, false), busy(), busy());
            KaleidoscopeBox one = busy();
            KaleidoscopeBox same = busy();
            one.cover(1, true);
            same.cover(1, true);
            refused(4, b -> b.cover(1, true), one, same);
        });
    }

    private void undone() {
        at("ACTS");
        test("The latest 8 acts that were done can be undone.", () -> {
            KaleidoscopeBox b = new KaleidoscopeBox();
            for (int keep = 1; keep <= 11; keep++) {
                b.setKeep(keep);
                is(Math.min(keep, 8), b.count(15));
            }
            for (int left = 7; left >= 0; left--) {
                is(left, b.undo());
                is(3 + left, b.count(3));
            }
            is(NONE, b.undo());
            is(3, b.count(3));
            // The acts that follow go round once more.
            for (int keep = 21; keep <= 30; keep++) {
                b.setKeep(keep);
            }
            is(7, b.undo());
            is(29, b.count(3));
            b.setKeep(50);
            is(8, b.count(15));
            for (int left = 7; left >= 0; left--) {
                is(left, b.undo());
                is(22 + left, b.count(3));
            }
            is(NONE, b.undo());
        });
    }

    private void unchanged(Class<? extends RuntimeException> want, Call call) {
        KaleidoscopeBox b = busy();
        fails(want, () -> call.on(b));
        isText(Everything.of(busy()), Everything.of(b));
    }

    private void exceptions() {
        at("EXCEPTIONS");
        test("A method that throws an exception changes nothing.", () -> {
            textsAndAnswersThatThrow();
            actsThatThrow();
        });
    }

    private void textsAndAnswersThatThrow() {
        unchanged(ARGUMENT, b -> b.truncateText(-1));
        unchanged(ARGUMENT, b -> b.truncateText(4));
        unchanged(ARGUMENT, b -> b.count(16));
        unchanged(INDEX, b -> b.chip(3, 0));
        unchanged(ARGUMENT, b -> b.chip(0, 6));
        unchanged(INDEX, b -> b.chipAt(-1, 0));
        unchanged(INDEX, b -> b.depth(2, 0));
        unchanged(ARGUMENT, b -> b.account(6));
        unchanged(INDEX, b -> b.colour(2, 0));
        unchanged(INDEX, b -> b.brightness(2, 0));
        unchanged(INDEX, b -> b.reflections(2, 0));
        unchanged(INDEX, b -> b.source(2, 0, true));
        unchanged(INDEX, b -> b.images(0, -1));
        unchanged(ARGUMENT, b -> b.cellsOf(10));
        unchanged(ARGUMENT, b -> b.commonest(9));
        unchanged(ARGUMENT, b -> b.regions(10));
        unchanged(INDEX, b -> b.regionSize(0, 2));
        unchanged(INDEX, b -> b.mapped(8, 0, 0, false));
        unchanged(ARGUMENT, b -> b.matches(2));
        unchanged(STATE, b -> b.matches(1));
        unchanged(INDEX, b -> b.restsAt(3, true));
        unchanged(STATE, b -> b.restsAt(2, true));
        unchanged(ARGUMENT, b -> b.settled(8, 0));
        unchanged(ARGUMENT, b -> b.settled(0, 6));
        unchanged(ARGUMENT, b -> b.bestTurn(0));
        unchanged(ARGUMENT, b -> b.period(0));
        unchanged(ARGUMENT, b -> b.save(2));
        unchanged(ARGUMENT, b -> b.restore(2));
        unchanged(STATE, b -> b.restore(1));
    }

    private void actsThatThrow() {
        unchanged(INDEX, b -> b.add(0, 1, 1, 0, -1));
        unchanged(ARGUMENT, b -> b.add(4, 1, 1, 0, 0));
        unchanged(ARGUMENT, b -> b.add(0, 10, 1, 0, 0));
        unchanged(ARGUMENT, b -> b.add(0, 1, 10, 0, 0));
        unchanged(INDEX, b -> b.take(3));
        unchanged(INDEX, b -> b.push(3, 0));
        unchanged(INDEX, b -> b.push(0, 8));
        unchanged(INDEX, b -> b.paint(3, 1));
        unchanged(ARGUMENT, b -> b.paint(0, 10));
        unchanged(ARGUMENT, b -> b.turn(8));
        unchanged(INDEX, b -> b.cover(2, true));
        unchanged(ARGUMENT, b -> b.setKeep(101));
    }

    private void fullText() {
        at("EXCEPTIONS");
        test("that throws an exception changes nothing", () -> {
            for (int length : new int[] {597, 600}) {
                KaleidoscopeBox b = new KaleidoscopeBox();
                for (int i = 0; i < 150; i++) {
                    b.appendText(0x20202020);
                }
                b.truncateText(length);
                fails(STATE, () -> b.appendText(0x3B3B3B3B));
                fails(STATE, () -> b.appendText(0));
                fails(ARGUMENT, () -> b.truncateText(length + 1));
                is(length, b.truncateText(length));
                is(NONE, b.load());
                is(1, b.errorCode());
                is(length, b.errorPosition());
            }
        });
    }

    private void ahead() {
        at("EXCEPTIONS");
        test("If several exceptions apply, the one that comes first in the method's list of exceptions is thrown.", () -> {
            KaleidoscopeBox b = busy();
            fails(INDEX, () -> b.chip(3, 6));
            fails(INDEX, () -> b.chip(-1, -1));
            fails(ARGUMENT, () -> b.matches(2));
            fails(ARGUMENT, () -> new KaleidoscopeBox().matches(-1));
            fails(INDEX, () -> b.add(4, 1, 1, -1, 0));
            fails(INDEX, () -> b.add(0, 0, 1, 0, 2));
            fails(INDEX, () -> b.add(0, 1, 0, 2, 0));
            fails(INDEX, () -> b.paint(3, 0));
            fails(INDEX, () -> b.paint(-1, 10));
            fails(ARGUMENT, () -> new KaleidoscopeBox().restore(2));
        });
        test("Exceptions come ahead of reasons.", () -> {
            KaleidoscopeBox full = crowded();
            fails(INDEX, () -> full.add(0, 1, 1, 0, 2));
            fails(ARGUMENT, () -> full.add(4, 1, 1, 0, 1));
            fails(ARGUMENT, () -> full.add(0, 10, 1, 0, 1));
            fails(ARGUMENT, () -> full.add(0, 1, 0, 0, 1));
            fails(INDEX, () -> full.push(2, 8));
            fails(INDEX, () -> full.push(2, -1));
            fails(ARGUMENT, () -> full.paint(2, 0));
            fails(ARGUMENT, () -> full.paint(2, 10));
            fails(INDEX, () -> full.cover(2, false));
            for (int reason = 1; reason <= 5; reason++) {
                is(reason == 3 ? 1 : 0, full.account(reason));
            }
        });
        test("Sets are told as the sum of 2 to the power of the numbers of their members.", () -> {
            KaleidoscopeBox b = box("angle 60 radius 1; cover 1;");
            is(2, b.count(10));
            b.cover(0, true);
            is(3, b.count(10));
            is(4095, b.symmetries());
            is(1 + 4 + 16 + 64 + 256 + 1024, b.ownMaps());
            is(4095, b.settled(0, 4));
        });
    }

    private void constants() {
        at("EXCEPTIONS");
        test("The constants: `NONE = -1`: There is none.", () -> is(-1, KaleidoscopeBox.NONE));
        test("`NOWHERE = -100`: Told as an x or y that there is not.", () -> {
            is(-100, KaleidoscopeBox.NOWHERE);
            KaleidoscopeBox b = box("angle 90 radius 1; cover 0; pin 1 1 0 0;");
            b.take(0);
            is(-100, b.chip(0, 3));
            is(-100, b.chip(0, 4));
            is(-100, b.source(0, -1, false));
            is(-100, b.source(0, -1, true));
        });
    }
}
