/** The terms CHIPS and FALLING. */
final class FallingSentences extends Sentences {
    @Override
    void tests() {
        chips();
        downAndDepth();
        order();
        glass();
        beads();
        goingOn();
        bubbles();
        movesAndRest();
    }

    private void chips() {
        at("CHIPS");
        test("A chip has a kind (0 glass, 1 bead, 2 bubble, 3 pin)", () -> {
            KaleidoscopeBox b = box("angle 90 radius 2; glass 1 1 0 0; bead 1 1 1 0; bubble 1 1 2 0; pin 1 1 0 1;");
            for (int kind = 0; kind <= 3; kind++) {
                is(kind, b.chip(kind, 0));
                is(4 + kind, b.add(kind, 1, 1, kind % 2 + 1, kind / 2 + 1));
                is(kind, b.chip(4 + kind, 0));
            }
            fails(ARGUMENT, () -> b.add(-1, 1, 1, 0, 2));
            fails(ARGUMENT, () -> b.add(4, 1, 1, 0, 2));
        });
        test("a colour (1 to 9), a weight (1 to 9) and a cell of the box", () -> {
            KaleidoscopeBox b = box("angle 60 radius 2; pin 1 9 0 0; pin 9 1 1 0;");
            is(1, b.chip(0, 1));
            is(9, b.chip(0, 2));
            is(9, b.chip(1, 1));
            is(1, b.chip(1, 2));
            is(2, b.add(3, 1, 9, 2, 0));
            is(3, b.add(3, 9, 1, 0, 2));
            fails(ARGUMENT, () -> b.add(3, 0, 1, 0, 1));
            fails(ARGUMENT, () -> b.add(3, 10, 1, 0, 1));
            fails(ARGUMENT, () -> b.add(3, 1, 0, 0, 1));
            fails(ARGUMENT, () -> b.add(3, 1, 10, 0, 1));
            fails(INDEX, () -> b.add(3, 1, 1, -1, 1));
        });
        test("no two chips have the same cell", () -> {
            KaleidoscopeBox b = box("angle 90 radius 1; down 2; bubble 1 1 0 0; bubble 1 1 1 0; glass 1 1 1 1;");
            is(-2, b.add(0, 1, 1, 0, 0));
            is(-2, b.push(0, 0));
            is(1, b.chipAt(1, 0));
            is(-5, b.tick());
            is(NONE, Due.load(b, "angle 90 radius 1; pin 1 1 1 1; bubble 2 2 1 1;"));
            is(2, b.take(0));
            is(3, b.add(0, 1, 1, 0, 0));
        });
        test("Chips are numbered from 0 as they come", () -> {
            KaleidoscopeBox b = box("angle 90 radius 1; pin 5 1 1 1; pin 6 1 0 0;");
            is(0, b.chipAt(1, 1));
            is(1, b.chipAt(0, 0));
            is(2, b.add(3, 1, 1, 0, 1));
            is(0, new KaleidoscopeBox().add(3, 1, 1, 0, 1));
        });
        test("at most 30 come", () -> {
            KaleidoscopeBox b = box(90, 1);
            for (int chip = 0; chip < 30; chip++) {
                is(chip, b.add(3, 1, 1, 0, 0));
                b.take(chip);
            }
            is(-1, b.add(3, 1, 1, 0, 0));
            is(30, b.count(5));
            is(30, Due.load(b, SetupSentences.pins(30)));
            is(-1, b.add(3, 1, 1, 6, 6));
            is(NONE, Due.load(b, SetupSentences.pins(31)));
        });
        test("A chip that is taken out keeps its number, but is not in the box any more.", () -> {
            KaleidoscopeBox b = box("angle 90 radius 1; down 6; glass 5 4 0 1; pin 1 1 1 1;");
            is(1, b.take(0));
            is(5, b.chip(0, 1));
            is(NOWHERE, b.chip(0, 3));
            is(NONE, b.chipAt(0, 1));
            is(0, b.colour(0, 1));
            is(0, b.moves());
            is(1, b.chipAt(1, 1));
            is(2, b.add(0, 1, 1, 0, 1));
            is(1, b.tick());
            is(NOWHERE, b.chip(0, 4));
            is(0, b.chip(0, 5));
        });
    }

    private void downAndDepth() {
        at("FALLING");
        test("DOWN is a direction (0 at first).", () -> {
            is(0, new KaleidoscopeBox().count(2));
            is(0, box(45, 2).count(2));
            KaleidoscopeBox b = box("angle 90 radius 3; glass 1 1 0 0;");
            b.settle();
            is(3, b.chip(0, 3));
            is(0, b.chip(0, 4));
        });
        test("The depth of a cell is x times the first number of the step of DOWN plus y times the second one (squares)", () -> {
            int[] due = {6, 3, -3, -9, -6, -3, 3, 9};
            for (int down = 0; down < 8; down++) {
                is(due[down], box("angle 90 radius 6; down " + down + ";").depth(6, -3));
            }
            is(12, box("angle 180 radius 6; down 1;").depth(6, 6));
            is(-12, box("angle 180 radius 6; down 5;").depth(6, 6));
            is(0, box("angle 45 radius 6; down 3;").depth(6, 6));
        });
        test("with hexagons it is twice this, plus x times the second number, plus y times the first one.", () -> {
            int[] due = {9, 0, -9, -9, 0, 9};
            for (int down = 0; down < 6; down++) {
                is(due[down], box("angle 60 radius 6; down " + down + ";").depth(6, -3));
            }
            is(12, box("angle 30 radius 6; down 0;").depth(6, 0));
            is(12, box("angle 30 radius 6; down 1;").depth(0, 6));
            is(-12, box("angle 30 radius 6; down 4;").depth(0, 6));
        });
        test("TICKS is the number of ticks so far.", () -> {
            KaleidoscopeBox b = box("angle 90 radius 3; glass 1 1 0 0;");
            is(0, b.count(4));
            b.tick();
            is(1, b.count(4));
            b.moves();
            b.settled(0, 0);
            is(1, b.count(4));
            b.settle();
            is(3, b.count(4));
            is(-5, b.tick());
            is(3, b.count(4));
        });
    }

    private static final String WALLS = "angle 180 radius 3; down 6; pin 1 1 -1 0; pin 1 1 1 0; pin 1 1 2 0;";

    private void order() {
        at("FALLING");
        test("first all glass and beads in the box try to move, each one once", () -> {
            KaleidoscopeBox b = box("angle 180 radius 3; down 6; glass 1 1 0 3; bead 1 1 2 3; glass 1 1 -2 3;");
            b.take(2);
            is(2, b.tick());
            is(2, b.chip(0, 4));
            is(2, b.chip(1, 4));
            is(1, b.chip(1, 5));
        });
        test("in the order of their depths at the beginning of the tick, the greatest first", () -> {
            // Each one finds its cell empty only if the one below has left it already.
            KaleidoscopeBox b = box("angle 90 radius 6; down 6; glass 1 9 0 6; glass 1 5 0 5; bead 1 7 0 4; glass 1 1 0 3;");
            is(4, b.tick());
            is(2, b.chip(3, 4));
            is(5, b.chip(0, 4));
            // The deeper bead takes the cell, though the glass above it is heavier and has the lower number.
            is(1, box("angle 90 radius 2; down 1; glass 1 9 0 0; bead 1 1 1 0; pin 1 1 2 1;").moves());
            falls("angle 90 radius 2; down 1; bead 1 1 1 0; glass 1 9 0 0; pin 1 1 2 1;", new int[] {1, 1});
            falls("angle 60 radius 3; down 0; bead 1 1 1 0; glass 1 9 0 1; pin 1 1 2 0;", new int[] {1, 1});
        });
        test("of several the heavier first", () -> {
            KaleidoscopeBox b = box(WALLS + "bead 1 8 1 1; bead 1 9 -1 1;");
            is(1, b.tick());
            is(4, b.chipAt(0, 0));
            KaleidoscopeBox c = box(WALLS + "bead 1 9 1 1; bead 1 8 -1 1;");
            is(2, c.tick());
            is(3, c.chipAt(0, 0));
            is(4, c.chipAt(-2, 0));
            KaleidoscopeBox glass = box("angle 180 radius 3; down 6; pin 1 1 0 0; bead 1 1 0 1; glass 1 2 1 1;");
            is(2, glass.tick());
            is(2, glass.chipAt(1, 0));
            is(1, glass.chipAt(-1, 0));
        });
        test("then the one with the lower number.", () -> {
            KaleidoscopeBox b = box(WALLS + "bead 1 5 1 1; bead 1 5 -1 1;");
            is(2, b.tick());
            is(3, b.chipAt(0, 0));
            KaleidoscopeBox c = box(WALLS + "bead 1 5 -1 1; bead 1 5 1 1;");
            is(1, c.tick());
            is(3, c.chipAt(0, 0));
            KaleidoscopeBox glass = box("angle 180 radius 3; down 6; pin 1 1 0 0; bead 1 1 0 1; glass 1 1 1 1;");
            is(1, glass.tick());
            is(1, glass.chipAt(1, 0));
        });
    }

    private void glass() {
        at("FALLING");
        test("Glass tries the cell in the direction DOWN.", () -> {
            int[][] squares = {{2, 2}, {2, 3}, {1, 3}, {0, 3}, {0, 2}, {0, 1}, {1, 1}, {2, 1}};
            for (int down = 0; down < 8; down++) {
                falls("angle 180 radius 3; down " + down + "; glass 1 1 1 2;", squares[down]);
            }
            int[][] hexagons = {{2, 1}, {1, 2}, {0, 2}, {0, 1}, {1, 0}, {2, 0}};
            for (int down = 0; down < 6; down++) {
                falls("angle 60 radius 3; down " + down + "; glass 1 1 1 1;", hexagons[down]);
            }
            is(0, box("angle 180 radius 3; down 6; glass 1 1 0 1; pin 1 1 0 0;").moves());
            is(0, box("angle 180 radius 3; down 6; glass 1 1 0 0;").moves());
            is(0, box("angle 180 radius 3; down 0; glass 1 1 3 0;").moves());
        });
    }

    private void falls(String setup, int[] cell) {
        KaleidoscopeBox b = box(setup);
        is(1, b.tick());
        is(cell[0], b.chip(0, 3));
        is(cell[1], b.chip(0, 4));
    }

    private void beads() {
        at("FALLING");
        test("A bead tries the cell in the direction DOWN, then those in the next direction and in the one ahead of DOWN", () -> {
            String bead = "angle 180 radius 2; down 6; bead 1 1 0 1;";
            falls(bead, new int[] {0, 0});
            falls(bead + "pin 1 1 0 0;", new int[] {1, 0});
            falls(bead + "pin 1 1 0 0; pin 1 1 1 0;", new int[] {-1, 0});
            is(0, box(bead + "pin 1 1 0 0; pin 1 1 1 0; pin 1 1 -1 0;").moves());
            is(0, box("angle 180 radius 2; down 6; bead 1 1 0 0;").moves());
        });
        test("(the other way round if TICKS is odd ahead of this tick; directions go round)", () -> {
            for (int ticks = 0; ticks <= 4; ticks++) {
                KaleidoscopeBox b = box("angle 180 radius 2; down 6; pin 1 1 0 0; glass 1 1 -2 0;");
                for (int i = 0; i < ticks; i++) {
                    b.push(1, 2);
                    is(1, b.tick());
                }
                is(2, b.add(1, 1, 1, 0, 1));
                b.tick();
                is(ticks % 2 == 0 ? 1 : -1, b.chip(2, 3));
                is(ticks + 1, b.count(4));
            }
        });
        test("directions go round", () -> {
            beadAt("angle 180 radius 2; down 7; pin 1 1 1 0;", 1, 1, 0, 0);
            beadAt("angle 180 radius 2; down 0; pin 1 1 1 1;", 1, 2, 1, 0);
            beadAt("angle 60 radius 2; down 5; pin 1 1 1 0;", 1, 1, 0, 0);
            beadAt("angle 60 radius 2; down 0; pin 1 1 1 1;", 0, 2, 1, 0);
        });
    }

    /** Where a bead from 0 1 goes with an even and with an odd number of ticks ahead, with a pin in its way down. */
    private void beadAt(String setup, int evenX, int evenY, int oddX, int oddY) {
        KaleidoscopeBox even = box(setup);
        even.add(1, 1, 1, 0, 1);
        is(1, even.tick());
        is(evenX, even.chip(1, 3));
        is(evenY, even.chip(1, 4));
        KaleidoscopeBox odd = box(setup);
        int x = odd.chip(0, 3);
        int y = odd.chip(0, 4);
        odd.take(0);
        odd.add(0, 1, 1, 0, 1);
        is(1, odd.tick());
        odd.take(1);
        odd.add(3, 1, 1, x, y);
        odd.add(1, 1, 1, 0, 1);
        is(1, odd.count(4));
        is(1, odd.tick());
        is(oddX, odd.chip(3, 3));
        is(oddY, odd.chip(3, 4));
    }

    private void goingOn() {
        at("FALLING");
        test("It (glass or bead) goes to the first of these that is in the box and empty then", () -> {
            // Both cells are outside; with 7 the first one is outside and the second one is not.
            is(0, box("angle 90 radius 1; down 5; bead 1 1 0 0;").moves());
            falls("angle 90 radius 1; down 0; bead 1 1 0 1; pin 1 1 1 1;", new int[] {1, 0});
            falls("angle 90 radius 1; down 7; bead 1 1 0 0;", new int[] {1, 0});
            // Filled in this tick already; left in this tick already.
            KaleidoscopeBox b = box("angle 180 radius 3; down 6; pin 1 1 0 0; bead 1 1 0 1; glass 1 9 1 1; glass 1 1 -1 1;");
            is(2, b.tick());
            is(2, b.chipAt(1, 0));
            is(1, b.chipAt(-1, 0));
            is(3, b.chipAt(-1, 1));
        });
        test("in the direction DOWN also to one with a bubble, which comes to its cell in exchange", () -> {
            for (String kind : new String[] {"glass", "bead"}) {
                KaleidoscopeBox b = box("angle 90 radius 1; down 6; " + kind + " 1 1 0 1; bubble 2 9 0 0; pin 1 1 1 1;");
                is(1, b.tick());
                is(0, b.chipAt(0, 0));
                is(1, b.chipAt(0, 1));
                is(1, b.count(12));
                is(0, b.count(13));
            }
            // The exchange was the bead's try: it does not roll on.
            KaleidoscopeBox high = box("angle 180 radius 3; down 6; bead 1 1 0 2; bubble 1 1 0 1; pin 1 1 0 0; pin 1 1 0 3;");
            is(1, high.tick());
            is(0, high.chipAt(0, 1));
            is(1, high.chipAt(0, 2));
            for (String kind : new String[] {"glass", "bead", "pin"}) {
                is(0, box("angle 90 radius 1; down 6; glass 1 1 0 1; pin 1 1 1 1; pin 1 1 1 0;" + kind + " 2 9 0 0;").moves());
            }
            is(0, box("angle 180 radius 1; down 6; bead 1 1 0 1; pin 1 1 0 0; bubble 1 1 1 0; bubble 1 1 -1 0; pin 1 1 1 1;"
                + "pin 1 1 -1 1;").moves());
        });
        test("Pins never move by themselves.", () -> {
            KaleidoscopeBox b = box("angle 180 radius 2; pin 1 9 0 1; glass 1 1 -1 1;");
            for (int down = 0; down < 8; down++) {
                b.settle();
                is(0, b.chip(0, 3));
                is(1, b.chip(0, 4));
                b.turn(1);
            }
            is(0, b.chip(0, 5));
        });
    }

    private void bubbles() {
        at("FALLING");
        test("Then all bubbles in the box try to move, each one once (exchanged ones, too)", () -> {
            KaleidoscopeBox b = box("angle 180 radius 3; down 6; glass 1 1 0 1; bubble 2 5 0 0; bubble 1 1 2 0; bubble 1 1 3 0;");
            b.take(3);
            is(3, b.tick());
            is(2, b.chip(1, 4));
            is(1, b.chip(1, 5));
            is(1, b.chip(2, 4));
        });
        test("in the order of their depths then, the least first", () -> {
            KaleidoscopeBox b = box("angle 90 radius 4; down 6; bubble 1 1 0 0; bubble 1 9 0 2; bubble 1 5 0 1;");
            is(3, b.tick());
            is(1, b.chip(0, 4));
            is(3, b.chip(1, 4));
            is(2, b.chip(2, 4));
            // Behind the exchange chip 1 is in the cell just below chip 2.
            KaleidoscopeBox exchanged = box("angle 90 radius 4; down 6; glass 1 1 0 1; bubble 1 1 0 0; bubble 1 9 0 2;");
            is(3, exchanged.tick());
            is(2, exchanged.chip(1, 4));
            is(3, exchanged.chip(2, 4));
        });
        // Bubbles in cells of one depth are never in each other's way: the answers would be the same in any order.
        test("of several the lighter first, then the one with the lower number", () -> {
            KaleidoscopeBox b = box("angle 90 radius 2; down 6; bubble 1 9 0 0; bubble 1 1 1 0; bubble 1 1 2 0;");
            is(3, b.tick());
            is(1, b.chip(0, 4));
            is(1, b.chip(1, 4));
            is(1, b.chip(2, 4));
        });
        test("each goes to the cell in the direction opposite to DOWN, if this is in the box and empty.", () -> {
            int[][] squares = {{0, 2}, {0, 1}, {1, 1}, {2, 1}, {2, 2}, {2, 3}, {1, 3}, {0, 3}};
            for (int down = 0; down < 8; down++) {
                falls("angle 180 radius 3; down " + down + "; bubble 1 1 1 2;", squares[down]);
            }
            int[][] hexagons = {{0, 1}, {1, 0}, {2, 0}, {2, 1}, {1, 2}, {0, 2}};
            for (int down = 0; down < 6; down++) {
                falls("angle 60 radius 3; down " + down + "; bubble 1 1 1 1;", hexagons[down]);
            }
            is(0, box("angle 180 radius 3; down 6; bubble 1 1 0 3;").moves());
            is(0, box("angle 180 radius 3; down 2; bubble 1 1 0 0;").moves());
            is(0, box("angle 180 radius 3; down 6; bubble 1 1 0 1; pin 1 1 0 2;").moves());
            is(0, box("angle 180 radius 1; down 6; bubble 1 1 0 0; bubble 1 1 0 1;").moves());
        });
    }

    private void movesAndRest() {
        at("FALLING");
        test("TICKS becomes 1 greater.", () -> {
            KaleidoscopeBox b = box("angle 90 radius 3; glass 1 1 0 0; glass 1 1 0 1;");
            is(2, b.tick());
            is(1, b.count(4));
            is(2, b.settle());
            is(3, b.count(4));
        });
        test("Each chip that goes to another cell in its own try is one move.", () -> {
            KaleidoscopeBox b = box("angle 90 radius 1; down 6; glass 1 1 0 1; bubble 1 1 0 0;");
            is(1, b.moves());
            is(1, b.tick());
            is(1, b.chip(0, 5));
            is(0, b.chip(1, 5));
            is(1, b.count(11));
            KaleidoscopeBox high = box("angle 90 radius 2; down 6; glass 1 1 0 1; bubble 1 1 0 0;");
            is(2, high.moves());
            high.push(0, 0);
            is(0, high.chip(0, 5));
            is(0, high.count(11));
        });
        test("The box is at rest if a tick would have no move.", () -> {
            is(-5, new KaleidoscopeBox().tick());
            is(-5, box("angle 90 radius 1; down 6; glass 1 1 0 0;").settle());
            KaleidoscopeBox b = box("angle 90 radius 1; down 6; bubble 1 1 0 0;");
            is(1, b.settle());
            is(-5, b.tick());
            is(0, b.settled(0, 0));
        });
    }
}
