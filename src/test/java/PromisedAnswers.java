import java.util.function.Supplier;

/** The promises of what would be, of the output, of undo and of saved states. */
final class PromisedAnswers extends Sentences {
    /** Everything in it can be told apart behind each act; chip 3 is out of the box. */
    private static KaleidoscopeBox rich() {
        KaleidoscopeBox b = box("angle 90 radius 2; down 6; keep 60; cover 1; bead 1 1 1 2; pin 2 1 1 1; bubble 3 1 2 0;"
            + "pin 5 5 0 0; glass 4 2 2 1;");
        b.tick();
        b.take(3);
        return b;
    }

    @Override
    void tests() {
        moves();
        restsAt();
        settled();
        settledTurned();
        bestTurn();
        period();
        noPeriod();
        meanBrightness();
        filled();
        write();
        output();
        undo();
        undoneActs();
        save();
        restore();
    }

    private void moves() {
        at("Promise 36");
        test("Returns how many moves a tick would have.", () -> {
            is(0, new KaleidoscopeBox().moves());
            KaleidoscopeBox b = box("angle 90 radius 2; down 6; glass 1 1 0 1; bubble 2 5 0 0; pin 1 1 1 1; bead 2 2 2 2;");
            is(3, b.moves());
            is(3, b.moves());
            is(0, b.count(4));
            is(0, b.account(0));
            b.settle();
            is(0, b.moves());
            is(0, b.account(5));
        });
    }

    private void restsAt() {
        at("Promise 37");
        test("Returns that number of the cell in which it would be when the box is at rest.", () -> {
            KaleidoscopeBox b = box("angle 180 radius 3; down 6; glass 1 1 0 3; pin 1 1 1 0; bead 1 1 1 2; bubble 1 1 -3 0;");
            int[][] due = {{0, 1}, {1, 0}, {0, 0}, {-3, 3}};
            for (int chip = 0; chip < 4; chip++) {
                is(due[chip][0], b.restsAt(chip, false));
                is(due[chip][1], b.restsAt(chip, true));
            }
            is(0, b.count(4));
            is(3, b.chip(0, 4));
            b.settle();
            is(1, b.restsAt(0, true));
            b.turn(4);
            is(3, b.restsAt(0, true));
            is(3, b.restsAt(2, true));
            is(0, b.restsAt(3, true));
            b.push(1, 2);
            is(1, b.restsAt(1, true));
            for (int ticks = 0; ticks <= 3; ticks++) {
                KaleidoscopeBox late = box("angle 180 radius 2; down 6; pin 9 1 0 0; glass 1 1 -2 0;");
                for (int i = 0; i < ticks; i++) {
                    late.push(1, 2);
                    late.tick();
                }
                late.add(1, 1, 1, 0, 1);
                is(ticks % 2 == 0 ? 1 : -1, late.restsAt(2, false));
            }
        });
        test("Throws `IndexOutOfBoundsException` if there is no such chip", () -> {
            KaleidoscopeBox b = box("angle 180 radius 3; pin 1 1 0 3; pin 1 1 1 0;");
            for (int chip : new int[] {-1, 2, 29, 30, LEAST, MOST}) {
                fails(INDEX, () -> b.restsAt(chip, true));
                fails(INDEX, () -> b.restsAt(chip, false));
            }
            is(1, b.restsAt(1, false));
        });
        test("Throws `IllegalStateException` if it is not in the box", () -> {
            KaleidoscopeBox b = box("angle 180 radius 3; pin 1 1 0 3; pin 1 1 1 0;");
            b.take(0);
            fails(STATE, () -> b.restsAt(0, true));
            fails(STATE, () -> b.restsAt(0, false));
            is(0, b.restsAt(1, true));
        });
    }

    private void settled() {
        at("Promise 38");
        test("Tells what would come if the box, as it is now (TICKS, too), was turned and then made ticks until it is at"
            + " rest.", () -> {
            KaleidoscopeBox b = box("angle 180 radius 2; down 6; pin 9 1 0 0; bead 1 1 0 1; pin 1 1 2 0; glass 9 1 -2 0;");
            is(3, b.settled(0, 2));
            b.push(3, 2);
            b.tick();
            b.push(1, 2);
            b.push(1, 4);
            is(1, b.count(4));
            is(4, b.settled(0, 2));
            is(6, b.count(2));
            is(1, b.count(4));
        });
        test("0: how many ticks; 1: how many moves; 2: regions of all colours; 3: edges", () -> {
            KaleidoscopeBox b = box("angle 180 radius 3; down 6; glass 1 1 0 3; pin 2 1 1 0; bead 3 1 1 2; pin 3 1 3 3;");
            int[] down = {2, 4, 6, 5};
            int[] up = {1, 1, 7, 2};
            for (int what = 0; what < 4; what++) {
                is(down[what], b.settled(0, what));
                is(up[what], b.settled(4, what));
            }
            b.settle();
            is(0, b.settled(0, 0));
            is(0, b.settled(0, 1));
            is(0, new KaleidoscopeBox().settled(0, 2));
        });
        test("4: the maps that the picture has, as a set; 5: the sum of the depths of all chips in the box", () -> {
            KaleidoscopeBox b = box("angle 90 radius 1; down 6; glass 1 1 0 1; pin 1 1 1 1;");
            is(0xFF, b.settled(0, 4));
            is(0x55, b.settled(4, 4));
            is(-1, b.settled(0, 5));
            is(2, b.settled(4, 5));
            b.take(1);
            is(0, b.settled(0, 5));
            is(1, b.settled(4, 5));
            is(0, new KaleidoscopeBox().settled(0, 5));
            is(0xFFF, new KaleidoscopeBox().settled(0, 4));
        });
        test("Returns that number.", () -> {
            KaleidoscopeBox b = box("angle 90 radius 2; glass 1 1 0 0;");
            is(2, b.settled(0, 0));
            is(0, b.count(4));
            is(0, b.chip(0, 3));
            is(NONE, b.undo());
            is(0, b.account(0));
        });
    }

    private void settledTurned() {
        at("Promise 38");
        test("0 to 7 (0: it is not turned)", () -> {
            KaleidoscopeBox b = box("angle 180 radius 6; down 6; glass 1 1 0 3;");
            int[] due = {3, 3, 6, 3, 3, 3, 6, 3};
            for (int steps = 0; steps <= 7; steps++) {
                is(due[steps], b.settled(steps, 0));
            }
            KaleidoscopeBox h = box("angle 60 radius 6; glass 1 1 1 2;");
            int[] ways = {3, 3, 1, 1, 2, 2, 3, 3};
            for (int steps = 0; steps <= 7; steps++) {
                is(ways[steps], h.settled(steps, 0));
            }
        });
        test("Throws `IllegalArgumentException` if steps or what is out of range", () -> {
            KaleidoscopeBox b = new KaleidoscopeBox();
            for (int steps : new int[] {-1, 8, LEAST, MOST}) {
                fails(ARGUMENT, () -> b.settled(steps, 0));
            }
            for (int what : new int[] {-1, 6, LEAST, MOST}) {
                fails(ARGUMENT, () -> b.settled(0, what));
            }
            is(0, b.settled(7, 0));
        });
    }

    private void bestTurn() {
        at("Promise 39");
        test("Returns by how many steps (0 to the number of directions less 1) the box has to be turned so that most cells"
            + " of the picture have this colour when it is at rest then", () -> {
            KaleidoscopeBox b = box("angle 90 radius 1; down 0; glass 1 1 0 1; pin 2 1 1 0;");
            is(0, b.bestTurn(1));
            for (int down = 1; down <= 7; down++) {
                b.turn(1);
                is(8 - down, b.bestTurn(1));
            }
            KaleidoscopeBox h = box("angle 60 radius 2; down 0; glass 1 1 0 1;");
            is(0, h.bestTurn(1));
            for (int down = 1; down <= 5; down++) {
                h.turn(1);
                is(6 - down, h.bestTurn(1));
            }
            is(5, h.count(2));
            is(0, h.count(4));
        });
        test("when it is at rest then", () -> {
            // Even TICKS: the bead rolls to 1 2, and on to 2 2 with its four images; odd ones: to 1 0, and on to 2 0 with two.
            KaleidoscopeBox even = box("angle 90 radius 2; down 0; pin 2 1 1 1; bead 1 1 0 1;");
            is(0, even.bestTurn(1));
            KaleidoscopeBox odd = box("angle 90 radius 2; down 0; pin 2 1 1 1; glass 3 1 1 0;");
            odd.tick();
            odd.take(1);
            odd.add(1, 1, 1, 0, 1);
            is(1, odd.bestTurn(1));
        });
        test("of several the least", () -> {
            is(0, new KaleidoscopeBox().bestTurn(9));
            is(0, box("angle 90 radius 1; down 5; pin 3 1 1 1;").bestTurn(3));
            is(0, box("angle 90 radius 1; down 5; pin 3 1 1 1;").bestTurn(4));
            // DOWN 0 and 2 are as good, by 4 and by 6 steps.
            KaleidoscopeBox b = box("angle 90 radius 1; down 4; glass 1 1 0 0; pin 2 1 1 1;");
            is(4, b.bestTurn(1));
            b.turn(5);
            is(1, b.bestTurn(1));
        });
        test("Throws `IllegalArgumentException` if colour is out of range", () -> {
            KaleidoscopeBox b = new KaleidoscopeBox();
            for (int colour : new int[] {-1, 0, 10, LEAST, MOST}) {
                fails(ARGUMENT, () -> b.bestTurn(colour));
            }
            is(0, b.bestTurn(1));
        });
        test("1 to 9", () -> {
            for (int colour = 1; colour <= 9; colour++) {
                KaleidoscopeBox b = box("angle 90 radius 1; down 0; pin 1 1 1 0; glass " + colour + " 1 0 1;");
                b.turn(1);
                is(7, b.bestTurn(colour));
            }
        });
    }

    private void period() {
        at("Promise 40");
        test("Tells how often the box has to be turned by so many steps and made ticks until it is at rest, each time, till"
            + " DOWN and the cells of all chips are as they are now", () -> {
            KaleidoscopeBox b = box("angle 90 radius 2; down 0; glass 1 1 2 0;");
            is(4, b.period(2));
            is(2, b.period(4));
            is(8, b.period(1));
            // DOWN alone is as it was before; the cells are not.
            is(NONE, box("angle 90 radius 2; down 0; glass 1 1 1 0;").period(2));
            // Two beads of the same looks that change places.
            String beads = "angle 180 radius 1; down 4; bead 1 1 -1 0; bead 1 1 -1 1;";
            KaleidoscopeBox swap = box(beads);
            is(turnsByHand(() -> box(beads), 4), swap.period(4));
            is(turnsByHand(() -> box(beads), 1), swap.period(1));
            is(0, swap.count(4));
            is(4, swap.count(2));
        });
        test("and made ticks until it is at rest, each time", () -> {
            // TICKS go on from what they are now: a bead rolls another way behind an odd number.
            String beads = "angle 180 radius 1; down 4; bead 1 1 -1 0; bead 1 1 -1 1; pin 1 1 1 0;";
            is(16, turnsByHand(() -> box(beads), 3));
            is(16, box(beads).period(3));
            is(8, turnsByHand(() -> late(beads), 3));
            is(8, late(beads).period(3));
        });
        test("(TICKS need not be)", () -> {
            KaleidoscopeBox b = box("angle 90 radius 2; down 0; glass 1 1 2 0;");
            is(4, b.period(2));
            for (int turns = 0; turns < 4; turns++) {
                b.turn(2);
                b.settle();
            }
            is(8, b.count(4));
            is(2, b.chip(0, 3));
        });
        test("1 to 7", () -> {
            int[] squares = {8, 4, 8, 2, 8, 4, 8};
            int[] hexagons = {6, 3, 2, 3, 6, 1, 6};
            for (int steps = 1; steps <= 7; steps++) {
                is(squares[steps - 1], box(45, 2).period(steps));
                is(hexagons[steps - 1], box("angle 60 radius 2; pin 1 1 0 0;").period(steps));
            }
        });
        test("Returns the least number from 1 on", () -> {
            KaleidoscopeBox b = box("angle 60 radius 2; glass 1 1 2 0; pin 2 2 1 1;");
            is(1, b.period(6));
            b.take(1);
            is(1, b.period(6));
        });
    }

    /** The number of turns till all is as it was, by acts alone; 60 at most. */
    private static int turnsByHand(Supplier<KaleidoscopeBox> start, int steps) {
        String first = lying(start.get());
        for (int turns = 1; turns <= 60; turns++) {
            KaleidoscopeBox b = start.get();
            for (int i = 0; i < turns; i++) {
                b.turn(steps);
                b.settle();
            }
            if (lying(b).equals(first)) {
                return turns;
            }
        }
        return NONE;
    }

    private static String lying(KaleidoscopeBox b) {
        StringBuilder text = new StringBuilder().append(b.count(2));
        for (int chip = 0; chip < b.count(5); chip++) {
            text.append(' ').append(b.chip(chip, 3)).append(' ').append(b.chip(chip, 4));
        }
        return text.toString();
    }

    /** A tick later: a glass has fallen from 1 1, and been taken out. */
    private static KaleidoscopeBox late(String setup) {
        KaleidoscopeBox b = box(setup);
        int glass = b.add(0, 1, 1, 1, 1);
        b.settle();
        b.take(glass);
        return b;
    }

    private void noPeriod() {
        at("Promise 40");
        test("NONE if it is above 48.", () -> {
            periodIs(48, "angle 90 radius 4; down 4; pin 1 2 3 2; glass 2 1 0 3; glass 3 9 0 0;", 5);
            periodIs(48, "angle 90 radius 4; down 0; glass 1 9 3 0; glass 2 9 4 0; pin 3 8 3 2;", 3);
            periodIs(45, "angle 60 radius 6; down 3; glass 3 9 0 6; glass 5 8 0 3; glass 6 2 0 2; pin 8 2 4 0; pin 9 3 1 1;", 2);
            periodIs(52, "angle 45 radius 3; down 5; glass 3 8 2 0; bead 4 3 1 1; bead 5 5 0 0; bead 6 2 1 0;", 2);
            periodIs(54, "angle 60 radius 4; down 0; bead 1 4 2 2; glass 2 9 4 0; glass 3 1 3 1; glass 4 9 3 0; pin 5 2 0 3;", 1);
            periodIs(56, "angle 45 radius 4; down 6; bead 1 5 4 0; bead 3 7 3 0; bead 8 2 2 0; pin 9 7 4 1;", 7);
            is(NONE, box("angle 60 radius 2; glass 1 1 1 0;").period(6));
        });
        test("Throws `IllegalArgumentException` if steps is out of range", () -> {
            KaleidoscopeBox b = new KaleidoscopeBox();
            for (int steps : new int[] {-1, 0, 8, LEAST, MOST}) {
                fails(ARGUMENT, () -> b.period(steps));
            }
            is(6, b.period(7));
        });
    }

    private void periodIs(int turns, String setup, int steps) {
        is(turns, turnsByHand(() -> box(setup), steps));
        is(turns <= 48 ? turns : NONE, box(setup).period(steps));
    }

    private void meanBrightness() {
        at("Promise 41");
        test("Returns the sum of the brightness of all cells that are seen, divided by their number, both converted to"
            + " double.", () -> {
            KaleidoscopeBox b = box("angle 90 radius 1; keep 50;");
            isDouble((4 * 1000 + 4 * 500 + 250) / 9.0, b.meanBrightness());
            b.cover(1, true);
            isDouble(5000 / 6.0, b.meanBrightness());
            b.cover(0, true);
            isDouble(1000.0, b.meanBrightness());
            // Cells that are seen count, however dark they are.
            isDouble(4040 / 9.0, box("angle 90 radius 1; keep 1;").meanBrightness());
            isDouble(1000.0, box("angle 30 radius 6; keep 100;").meanBrightness());
            isDouble(1000.0, box("angle 30 radius 1; cover 0; cover 1;").meanBrightness());
        });
    }

    private void filled() {
        at("Promise 42");
        test("Returns the cells of the box that have a chip divided by all cells of the box, both converted to float.", () -> {
            isDouble(0.0, new KaleidoscopeBox().filled());
            KaleidoscopeBox b = box("angle 45 radius 1; pin 1 1 0 0;");
            isDouble(1.0f / 3.0f, b.filled());
            b.add(2, 1, 1, 1, 0);
            isDouble(2.0f / 3.0f, b.filled());
            b.add(0, 1, 1, 1, 1);
            isDouble(1.0, b.filled());
            b.take(0);
            b.take(1);
            b.take(2);
            isDouble(0.0, b.filled());
            isDouble(30.0f / 91.0f, box(SetupSentences.pins(30)).filled());
        });
    }

    static String written(KaleidoscopeBox b) {
        int length = b.write();
        StringBuilder text = new StringBuilder();
        for (int i = 0; i < length; i++) {
            text.append((char) b.output(i));
        }
        return text.toString();
    }

    private void write() {
        at("Promise 43");
        test("Writes the picture as the output, which is replaced", () -> {
            KaleidoscopeBox b = box(90, 1);
            b.write();
            is('0', b.output(0));
            b.add(3, 8, 1, 1, 1);
            is('0', b.output(0));
            b.write();
            is('8', b.output(0));
            Due.load(b, "angle 60 radius 1;");
            is('8', b.output(0));
            is(12, b.write());
            is('0', b.output(0));
        });
        test("rows from the greatest y to the least one, each with all x from -RADIUS to RADIUS in ascending order: the"
            + " colour as a digit, or a space for a cell that is not in the picture; behind each row a line feed.", () -> {
            KaleidoscopeBox b = box("angle 180 radius 2; cover 0; pin 1 1 -2 2; pin 9 1 2 1; pin 5 1 0 0;");
            isText("10000\n00009\n00500\n00000\n00000\n", written(b));
            KaleidoscopeBox h = box("angle 60 radius 2; cover 0; cover 1; pin 1 1 2 0; pin 2 1 0 2; pin 3 1 0 0;");
            isText("002  \n0000 \n00301\n 0000\n  000\n", written(h));
            isText("07 \n080\n 00\n", written(box("angle 60 radius 1; cover 0; cover 1; pin 7 1 0 1; pin 8 1 0 0;")));
        });
        test("Returns the number of bytes of the output.", () -> {
            for (int angle : ANGLES) {
                is(12, box(angle, 1).write());
                is(182, box(angle, 6).write());
            }
        });
    }

    private void output() {
        at("Promise 44");
        test("0 for the first byte", () -> {
            KaleidoscopeBox b = box("angle 90 radius 1; pin 4 1 1 1;");
            b.write();
            is('4', b.output(0));
            is('0', b.output(1));
        });
        test("Returns this byte of the output; NONE if there is no such byte, or nothing was written.", () -> {
            KaleidoscopeBox b = box("angle 45 radius 6; pin 2 1 6 6;");
            for (int index : new int[] {-1, 0, 1, LEAST, MOST}) {
                is(NONE, b.output(index));
            }
            b.write();
            is('2', b.output(0));
            is('2', b.output(180));
            is(10, b.output(181));
            is(10, b.output(13));
            for (int index : new int[] {-1, 182, 183, LEAST, MOST}) {
                is(NONE, b.output(index));
            }
            Due.load(b, "angle 45 radius 1;");
            is(10, b.output(181));
            b.write();
            is(10, b.output(11));
            is(NONE, b.output(12));
            is(NONE, b.output(181));
        });
    }

    private void undo() {
        at("Promise 45");
        test("Undoes the latest act that can be undone", () -> {
            KaleidoscopeBox b = box(60, 2);
            b.turn(1);
            b.setKeep(7);
            b.turn(2);
            b.undo();
            is(1, b.count(2));
            is(7, b.count(3));
            b.undo();
            is(90, b.count(3));
            b.undo();
            is(0, b.count(2));
        });
        test("everything but the accounts, the text buffer, the latest error, the output and the saved states is as it was"
            + " ahead of it.", () -> {
            KaleidoscopeBox b = rich();
            b.save(0);
            b.turn(3);
            b.write();
            b.save(1);
            Due.load(b, "angle 7");
            Due.put(b, "   x");
            String output = String.valueOf(b.output(0)) + b.output(3) + b.output(29);
            is(2, b.undo());
            isText(Everything.ofState(rich()), Everything.ofState(b));
            is(3, b.account(0));
            is(2, b.errorCode());
            is(6, b.errorPosition());
            isText(output, String.valueOf(b.output(0)) + b.output(3) + b.output(29));
            b.load();
            is(3, b.errorPosition());
            b.restore(1);
            is((6 + 3) % 8, b.count(2));
        });
        test("Returns the number of acts that can still be undone; NONE if there is none to undo.", () -> {
            KaleidoscopeBox b = box(60, 2);
            is(NONE, b.undo());
            b.turn(1);
            is(0, b.undo());
            is(NONE, b.undo());
            for (int acts = 0; acts < 9; acts++) {
                b.turn(1);
            }
            for (int left = 7; left >= 0; left--) {
                is(left, b.undo());
            }
            is(NONE, b.undo());
            is(NONE, b.undo());
            is(1, b.count(2));
            is(10, b.account(0));
        });
    }

    private interface Act {
        int on(KaleidoscopeBox b);
    }

    private void undone(Act act) {
        KaleidoscopeBox b = rich();
        is(0, Math.min(0, act.on(b)));
        is(3, b.count(15));
        is(2, b.undo());
        isText(Everything.ofState(rich()), Everything.ofState(b));
    }

    private void undoneActs() {
        at("Promise 45");
        test("is as it was ahead of it", () -> {
            undone(b -> b.add(0, 9, 9, 0, 2));
            undone(b -> b.take(0));
            undone(b -> b.push(1, 5));
            undone(b -> b.paint(1, 9));
            undone(b -> b.turn(1));
            undone(b -> b.tick());
            undone(b -> b.settle());
            undone(b -> b.cover(0, true));
            undone(b -> b.cover(1, false));
            undone(b -> b.setKeep(1));
        });
        test("everything", () -> {
            KaleidoscopeBox b = thirty();
            b.settle();
            is(12, b.chip(29, 5));
            b.undo();
            lastChipIs(b, 5, -5, 1);
            b.paint(29, 9);
            b.take(29);
            b.undo();
            lastChipIs(b, 9, -5, 1);
            b.undo();
            lastChipIs(b, 5, -5, 1);
            b.undo();
            lastChipIs(b, 5, -6, 0);
            b.undo();
            fails(INDEX, () -> b.chip(29, 0));
        });
    }

    /** As many chips as can come; the last one is a glass that has moved once. */
    private static KaleidoscopeBox thirty() {
        KaleidoscopeBox b = box(SetupSentences.pins(29));
        b.add(0, 5, 7, -6, 6);
        b.tick();
        return b;
    }

    private void lastChipIs(KaleidoscopeBox b, int colour, int x, int moves) {
        int[] due = {0, colour, 7, x, 6, moves};
        for (int what = 0; what < due.length; what++) {
            is(due[what], b.chip(29, what));
        }
        is(29, b.chipAt(x, 6));
    }

    private void save() {
        at("Promise 46");
        test("Saves everything but the accounts, the acts that can be undone, the text buffer, the latest error, the output"
            + " and the saved states.", () -> {
            KaleidoscopeBox b = rich();
            b.save(0);
            is(2, b.count(15));
            b.settle();
            Due.load(b, "angle 60 radius 6; down 1;");
            b.save(1);
            b.write();
            Due.load(b, "angle 61");
            Due.put(b, "   x");
            b.restore(0);
            isText(Everything.ofState(rich()), Everything.ofState(b));
            is(3, b.account(0));
            is(2, b.errorCode());
            is(6, b.errorPosition());
            is('0', b.output(6));
            is(' ', b.output(7));
            b.load();
            is(3, b.errorPosition());
            b.restore(1);
            is(60, b.count(0));
        });
        test("Saves everything", () -> {
            KaleidoscopeBox b = thirty();
            b.save(1);
            Due.load(b, SetupSentences.pins(30));
            is(3, b.chip(29, 0));
            is(1, b.chip(29, 2));
            b.restore(1);
            lastChipIs(b, 5, -5, 1);
            is(30, b.count(6));
        });
        test("0 or 1; a state that is already saved there is replaced", () -> {
            KaleidoscopeBox b = box(60, 2);
            b.save(0);
            b.turn(1);
            b.save(1);
            b.turn(1);
            b.save(0);
            b.turn(1);
            b.restore(0);
            is(2, b.count(2));
            b.restore(1);
            is(1, b.count(2));
        });
        test("Throws `IllegalArgumentException` if slot is out of range", () -> {
            KaleidoscopeBox b = box(60, 2);
            for (int slot : new int[] {-1, 2, LEAST, MOST}) {
                fails(ARGUMENT, () -> b.save(slot));
            }
            fails(STATE, () -> b.restore(0));
            fails(STATE, () -> b.restore(1));
        });
    }

    private void restore() {
        at("Promise 47");
        test("Brings back a saved state, which stays saved; no act can be undone then.", () -> {
            KaleidoscopeBox b = rich();
            b.save(1);
            for (int times = 0; times < 2; times++) {
                b.settle();
                b.turn(2);
                b.paint(0, 9);
                b.restore(1);
                is(0, b.count(15));
                is(NONE, b.undo());
                is(0, b.matches(1));
            }
            is(2 + 6, b.account(0));
            isText(Everything.ofState(rich()), Everything.ofState(b));
        });
        test("0 or 1", () -> {
            KaleidoscopeBox b = box(60, 2);
            b.save(0);
            Due.load(b, "angle 45 radius 6; pin 1 1 6 6;");
            b.save(1);
            b.restore(0);
            is(60, b.count(0));
            is(0, b.count(5));
            b.restore(1);
            is(45, b.count(0));
            is(0, b.chipAt(6, 6));
        });
        test("Throws `IllegalArgumentException` if slot is out of range", () -> {
            KaleidoscopeBox b = box(60, 2);
            b.save(0);
            b.save(1);
            for (int slot : new int[] {-1, 2, LEAST, MOST}) {
                fails(ARGUMENT, () -> b.restore(slot));
            }
        });
        test("Throws `IllegalStateException` if nothing is saved there", () -> {
            KaleidoscopeBox b = box(60, 2);
            fails(STATE, () -> b.restore(0));
            fails(STATE, () -> b.restore(1));
            b.save(0);
            fails(STATE, () -> b.restore(1));
            b.restore(0);
            is(60, b.count(0));
        });
    }
}
