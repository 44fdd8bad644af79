/** The promises of the acts: add to setKeep. */
final class PromisedActs extends Sentences {
    @Override
    void tests() {
        add();
        refusedAdd();
        take();
        push();
        refusedPush();
        paint();
        turn();
        tick();
        settle();
        cover();
        setKeep();
    }

    /** 30 chips came, and all but one that is at 0 0 were taken out. */
    private static KaleidoscopeBox worn() {
        KaleidoscopeBox b = box("angle 90 radius 1; pin 1 1 0 0;");
        for (int chip = 1; chip < 30; chip++) {
            b.add(3, 1, 1, 1, 1);
            b.take(chip);
        }
        return b;
    }

    private void add() {
        at("Promise 27");
        test("Puts a chip into the box.", () -> {
            KaleidoscopeBox b = box(60, 3);
            is(0, b.add(1, 9, 8, 1, 2));
            int[] due = {1, 9, 8, 1, 2, 0};
            for (int what = 0; what < due.length; what++) {
                is(due[what], b.chip(0, what));
            }
            is(0, b.chipAt(1, 2));
        });
        test("0 to 3", () -> {
            KaleidoscopeBox b = box(180, 2);
            for (int kind = 0; kind <= 3; kind++) {
                is(kind, b.add(kind, 1, 1, kind - 2, 0));
                is(kind, b.chip(kind, 0));
            }
        });
        test("1 to 9", () -> {
            KaleidoscopeBox b = box(180, 4);
            for (int n = 1; n <= 9; n++) {
                is(n - 1, b.add(3, n, 10 - n, n - 5, 0));
                is(n, b.chip(n - 1, 1));
                is(10 - n, b.chip(n - 1, 2));
            }
        });
        test("Returns its number", () -> {
            KaleidoscopeBox b = box(90, 1);
            for (int chip = 0; chip < 30; chip++) {
                is(chip, b.add(3, 1, 1, 1, 1));
                b.take(chip);
            }
            b.undo();
            b.undo();
            is(29, b.add(2, 5, 6, 1, 0));
            is(2, b.chip(29, 0));
            is(1, b.chip(29, 3));
            is(0, b.chip(29, 5));
        });
        test("Throws `IndexOutOfBoundsException` if the cell is not in the box", () -> {
            KaleidoscopeBox b = box(60, 3);
            int[][] outside = {{-1, 2}, {2, -1}, {2, 2}, {4, 0}, {0, 4}, {LEAST, LEAST}, {MOST, MOST}, {MOST, LEAST}};
            for (int[] cell : outside) {
                fails(INDEX, () -> b.add(0, 1, 1, cell[0], cell[1]));
            }
            is(0, b.add(0, 1, 1, 3, 0));
        });
        test("Throws `IllegalArgumentException` if kind, colour or weight is out of range", () -> {
            KaleidoscopeBox b = box(60, 3);
            for (int kind : new int[] {-1, 4, LEAST, MOST}) {
                fails(ARGUMENT, () -> b.add(kind, 1, 1, 0, 0));
            }
            for (int n : new int[] {-1, 0, 10, LEAST, MOST}) {
                fails(ARGUMENT, () -> b.add(0, n, 1, 0, 0));
                fails(ARGUMENT, () -> b.add(0, 1, n, 0, 0));
            }
        });
    }

    private void refusedAdd() {
        at("Promise 27");
        test("or minus the reason: 1 30 chips came; 2 there is a chip in this cell.", () -> {
            KaleidoscopeBox b = worn();
            is(1, b.count(6));
            is(-1, b.add(0, 1, 1, 1, 1));
            is(-1, b.add(0, 1, 1, 0, 0));
            is(2, b.account(1));
            is(0, b.account(2));
        });
        test("1 30 chips came", () -> {
            KaleidoscopeBox b = box(SetupSentences.pins(29));
            is(29, b.add(0, 1, 1, 6, 6));
            is(-1, b.add(0, 1, 1, 5, 6));
            is(30, b.count(5));
            b.undo();
            is(29, b.add(0, 1, 1, 5, 6));
        });
        test("2 there is a chip in this cell.", () -> {
            KaleidoscopeBox b = box("angle 90 radius 1; glass 1 1 0 0; bead 1 1 1 0; bubble 1 1 0 1; pin 1 1 1 1;");
            for (int chip = 0; chip < 4; chip++) {
                is(-2, b.add(chip, 1, 1, b.chip(chip, 3), b.chip(chip, 4)));
            }
            is(4, b.account(2));
            b.take(3);
            is(4, b.add(0, 1, 1, 1, 1));
        });
    }

    private void take() {
        at("Promise 28");
        test("Takes a chip out of the box.", () -> {
            KaleidoscopeBox b = box("angle 90 radius 1; pin 7 1 1 1;");
            b.take(0);
            is(NONE, b.chipAt(1, 1));
            is(NOWHERE, b.chip(0, 3));
            is(0, b.cellsOf(7));
            is(1, b.count(5));
        });
        test("Returns how many are in the box then", () -> {
            KaleidoscopeBox b = box("angle 90 radius 2; pin 1 1 0 0; glass 2 2 0 1; bead 3 3 0 2;");
            is(2, b.take(1));
            is(1, b.take(0));
            is(0, b.take(2));
            is(29, box(SetupSentences.pins(30)).take(29));
        });
        test("or minus the reason: 3 it is not in the box.", () -> {
            KaleidoscopeBox b = box("angle 90 radius 2; pin 1 1 0 0; pin 1 1 1 1;");
            b.take(0);
            is(-3, b.take(0));
            is(-3, b.take(0));
            is(2, b.account(3));
            is(1, b.count(15));
            is(0, b.take(1));
        });
        test("Throws `IndexOutOfBoundsException` if there is no such chip", () -> {
            KaleidoscopeBox b = box("angle 90 radius 2; pin 1 1 0 0; pin 1 1 1 1;");
            noSuchChip(b, 2, chip -> b.take(chip));
            KaleidoscopeBox full = worn();
            fails(INDEX, () -> full.take(30));
            is(0, full.take(0));
        });
    }

    private interface OfChip {
        void asked(int chip);
    }

    private void noSuchChip(KaleidoscopeBox b, int came, OfChip call) {
        is(came, b.count(5));
        for (int chip : new int[] {-1, came, came + 1, 29, 30, LEAST, MOST}) {
            fails(INDEX, () -> call.asked(chip));
        }
    }

    private void push() {
        at("Promise 29");
        test("Pushes a chip by hand (this is no move; pins, too): it goes to the next cell in a direction.", () -> {
            KaleidoscopeBox b = box("angle 180 radius 2; pin 1 1 0 1; glass 1 1 2 0; bead 1 1 2 1; bubble 1 1 2 2;");
            b.push(0, 3);
            is(0, b.chipAt(-1, 2));
            is(NONE, b.chipAt(0, 1));
            for (int chip = 1; chip < 4; chip++) {
                b.push(chip, 4);
                is(1, b.chip(chip, 3));
                is(0, b.chip(chip, 5));
            }
            is(0, b.count(11));
            is(0, b.count(4));
        });
        test("Returns how many moves a tick would have then", () -> {
            KaleidoscopeBox b = box("angle 90 radius 2; down 6; pin 1 1 0 0; glass 2 2 0 1; bubble 3 3 2 1;");
            is(2, b.push(0, 0));
            is(1, b.push(0, 4));
            is(0, b.push(2, 2));
        });
        test("Throws `IndexOutOfBoundsException` if there is no such chip or direction", () -> {
            KaleidoscopeBox b = box("angle 90 radius 2; pin 1 1 0 0; pin 1 1 2 2;");
            noSuchChip(b, 2, chip -> b.push(chip, 0));
            for (int direction : new int[] {-1, 8, LEAST, MOST}) {
                fails(INDEX, () -> b.push(0, direction));
            }
            is(0, b.push(0, 1));
            KaleidoscopeBox h = box("angle 60 radius 2; pin 1 1 0 1;");
            for (int direction : new int[] {-1, 6, 7, LEAST, MOST}) {
                fails(INDEX, () -> h.push(0, direction));
            }
            is(0, h.push(0, 5));
            is(0, h.chipAt(1, 0));
        });
    }

    private void refusedPush() {
        at("Promise 29");
        test("or minus the reason: 3 it is not in the box; 4 that cell is not in the box; 2 there is a chip in that cell.", () -> {
            KaleidoscopeBox b = box("angle 90 radius 1; pin 1 1 0 0; pin 1 1 1 0; pin 1 1 0 1;");
            b.take(0);
            for (int direction = 0; direction < 8; direction++) {
                is(-3, b.push(0, direction));
            }
            is(8, b.account(3));
            is(0, b.account(2) + b.account(4));
        });
        test("4 that cell is not in the box", () -> {
            KaleidoscopeBox b = box("angle 90 radius 1; pin 1 1 0 0; pin 1 1 1 1;");
            for (int direction = 3; direction <= 7; direction++) {
                is(-4, b.push(0, direction));
            }
            is(-4, b.push(1, 0));
            is(-4, b.push(1, 1));
            is(-4, b.push(1, 2));
            is(-4, b.push(1, 3));
            is(9, b.account(4));
            KaleidoscopeBox large = box("angle 180 radius 6; pin 1 1 6 3; pin 1 1 -6 6;");
            is(-4, large.push(0, 0));
            is(-4, large.push(0, 7));
            is(-4, large.push(1, 4));
            is(-4, large.push(1, 2));
            KaleidoscopeBox h = box("angle 30 radius 2; pin 1 1 1 1;");
            is(-4, h.push(0, 0));
            is(-4, h.push(0, 1));
            is(-4, h.push(0, 2));
            is(-4, h.push(0, 3));
            is(0, h.push(0, 4));
        });
        test("2 there is a chip in that cell.", () -> {
            KaleidoscopeBox b = box("angle 90 radius 1; glass 1 1 0 0; bead 1 1 1 0; bubble 1 1 0 1; pin 1 1 1 1;");
            is(-2, b.push(0, 0));
            is(-2, b.push(0, 1));
            is(-2, b.push(0, 2));
            is(-2, b.push(3, 5));
            is(4, b.account(2));
            b.take(3);
            is(0, b.push(0, 1));
        });
    }

    private void paint() {
        at("Promise 30");
        test("Gives a chip another colour (also the one that it has).", () -> {
            KaleidoscopeBox b = box("angle 90 radius 2; pin 1 1 1 1;");
            is(4, b.paint(0, 9));
            is(9, b.chip(0, 1));
            is(4, b.paint(0, 9));
            is(2, b.account(0));
            is(1, b.undo());
            is(0, b.undo());
            is(1, b.chip(0, 1));
        });
        test("1 to 9", () -> {
            KaleidoscopeBox b = box("angle 90 radius 2; pin 5 1 0 0;");
            for (int colour = 1; colour <= 9; colour++) {
                is(1, b.paint(0, colour));
                is(colour, b.colour(0, 0));
            }
        });
        test("Returns how many cells of the picture have this colour then", () -> {
            KaleidoscopeBox b = box("angle 90 radius 2; pin 1 1 1 1; bead 2 1 2 0;");
            is(6, b.paint(0, 2));
            is(2, b.paint(1, 1));
            b.cover(0, true);
            b.cover(1, true);
            is(2, b.paint(1, 2));
        });
        test("or minus the reason: 3 it is not in the box.", () -> {
            KaleidoscopeBox b = box("angle 90 radius 2; pin 1 1 1 1; bead 2 1 2 0;");
            b.take(1);
            is(-3, b.paint(1, 5));
            is(2, b.chip(1, 1));
            is(1, b.account(3));
        });
        test("Throws `IndexOutOfBoundsException` if there is no such chip", () -> {
            KaleidoscopeBox b = box("angle 90 radius 2; pin 1 1 1 1;");
            noSuchChip(b, 1, chip -> b.paint(chip, 1));
            noSuchChip(b, 1, chip -> b.paint(chip, 0));
        });
        test("Throws `IllegalArgumentException` if colour is out of range", () -> {
            KaleidoscopeBox b = box("angle 90 radius 2; pin 1 1 1 1;");
            for (int colour : new int[] {-1, 0, 10, LEAST, MOST}) {
                fails(ARGUMENT, () -> b.paint(0, colour));
            }
        });
    }

    private void turn() {
        at("Promise 31");
        test("DOWN becomes the direction that is so many ones farther (directions go round).", () -> {
            for (int angle : ANGLES) {
                int directions = angle == 60 || angle == 30 ? 6 : 8;
                for (int down = 0; down < directions; down++) {
                    for (int steps = 1; steps <= 7; steps++) {
                        KaleidoscopeBox b = box("angle " + angle + " radius 1; down " + down + ";");
                        is((down + steps) % directions, b.turn(steps));
                        is((down + steps) % directions, b.count(2));
                    }
                }
            }
        });
        test("Nothing falls yet.", () -> {
            KaleidoscopeBox b = box("angle 45 radius 2; glass 1 1 0 0; bead 1 1 1 0;");
            b.turn(1);
            is(0, b.chipAt(0, 0));
            is(1, b.chipAt(1, 0));
            is(0, b.count(4));
            is(0, b.count(11));
        });
        test("1 to 7", () -> {
            KaleidoscopeBox b = box(60, 1);
            is(1, b.turn(7));
            is(1, b.turn(6));
            is(2, b.count(15));
            is(2, b.turn(1));
        });
        test("Returns DOWN then.", () -> {
            KaleidoscopeBox b = box("angle 90 radius 1; down 7;");
            is(0, b.turn(1));
            is(7, b.turn(7));
            is(6, b.turn(7));
        });
        test("Throws `IllegalArgumentException` if steps is out of range", () -> {
            KaleidoscopeBox b = box(90, 1);
            for (int steps : new int[] {-1, 0, 8, LEAST, MOST}) {
                fails(ARGUMENT, () -> b.turn(steps));
            }
        });
    }

    private void tick() {
        at("Promise 32");
        test("Makes a tick.", () -> {
            KaleidoscopeBox b = box("angle 90 radius 3; down 6; glass 1 1 0 3;");
            b.tick();
            is(2, b.chip(0, 4));
            is(1, b.count(4));
            is(1, b.count(15));
        });
        test("Returns how many moves it has; or minus the reason: 5 the box is at rest.", () -> {
            KaleidoscopeBox b = box("angle 90 radius 2; down 6; glass 1 1 0 2; bead 1 1 1 1; pin 1 1 2 2;");
            is(2, b.tick());
            is(1, b.tick());
            is(-5, b.tick());
            is(-5, b.tick());
            is(2, b.count(4));
            is(2, b.account(5));
            is(2, b.account(0));
            is(-5, new KaleidoscopeBox().tick());
        });
        // 30 chips at once are the most.
        test("Returns how many moves it has", () -> {
            StringBuilder setup = new StringBuilder("angle 180 radius 6; down 2;");
            for (int i = 0; i < 30; i++) {
                setup.append(i % 2 == 0 ? "bead1 1 " : "glass1 1 ").append(i % 13 - 6).append(' ').append(i / 13).append(';');
            }
            KaleidoscopeBox b = box(setup.toString());
            is(30, b.tick());
            is(30, b.count(11));
        });
    }

    private void settle() {
        at("Promise 33");
        test("Makes ticks until the box is at rest.", () -> {
            KaleidoscopeBox b = box("angle 180 radius 3; down 6; glass 1 1 0 3; pin 1 1 1 0; bead 1 1 1 2;");
            b.settle();
            is(0, b.moves());
            is(1, b.chip(0, 4));
            is(0, b.chip(2, 3));
            is(0, b.chip(2, 4));
            is(1, b.count(15));
            b.undo();
            is(3, b.chip(0, 4));
            is(0, b.count(4));
        });
        test("Returns how many ticks; or minus the reason: 5 the box is at rest.", () -> {
            KaleidoscopeBox b = box("angle 180 radius 6; down 6; glass 1 1 0 6;");
            is(6, b.settle());
            is(6, b.count(4));
            is(-5, b.settle());
            is(1, b.account(5));
            is(6, b.count(4));
            is(1, b.count(15));
            is(12, box("angle 180 radius 6; down 0; glass 1 1 -6 0;").settle());
            is(-5, new KaleidoscopeBox().settle());
        });
    }

    private void cover() {
        at("Promise 34");
        test("Covers a mirror, or not any more.", () -> {
            KaleidoscopeBox b = box(60, 3);
            b.cover(1, true);
            is(2, b.count(10));
            is(0, b.colour(-1, 0));
            b.cover(1, false);
            is(0, b.count(10));
        });
        test("Returns how many cells are seen then", () -> {
            KaleidoscopeBox b = box(60, 3);
            is(16, b.cover(0, true));
            is(10, b.cover(1, true));
            is(16, b.cover(0, false));
            is(37, b.cover(1, false));
            is(28, box(180, 3).cover(0, true));
        });
        test("or minus the reason: 4 it is so already.", () -> {
            KaleidoscopeBox b = box(60, 3);
            is(-4, b.cover(0, false));
            is(-4, b.cover(1, false));
            b.cover(0, true);
            is(-4, b.cover(0, true));
            is(-4, b.cover(1, false));
            is(4, b.account(4));
            is(1, b.account(0));
        });
        test("Throws `IndexOutOfBoundsException` if there is no such mirror", () -> {
            for (int angle : ANGLES) {
                KaleidoscopeBox b = box(angle, 1);
                for (int mirror : new int[] {-1, angle == 180 ? 1 : 2, 2, 32, LEAST, MOST}) {
                    fails(INDEX, () -> b.cover(mirror, true));
                    fails(INDEX, () -> b.cover(mirror, false));
                }
            }
        });
    }

    private void setKeep() {
        at("Promise 35");
        test("Sets KEEP (also to what it is).", () -> {
            KaleidoscopeBox b = box(90, 1);
            b.setKeep(50);
            is(500, b.brightness(-1, 0));
            b.setKeep(50);
            is(50, b.count(3));
            is(2, b.count(15));
            is(2, b.account(0));
        });
        test("1 to 100", () -> {
            KaleidoscopeBox b = box(90, 1);
            b.setKeep(1);
            is(1, b.count(3));
            b.setKeep(100);
            is(100, b.count(3));
        });
        test("Returns KEEP before.", () -> {
            KaleidoscopeBox b = box(90, 1);
            is(90, b.setKeep(1));
            is(1, b.setKeep(100));
            is(100, b.setKeep(100));
        });
        test("Throws `IllegalArgumentException` if keep is out of range", () -> {
            KaleidoscopeBox b = box(90, 1);
            for (int keep : new int[] {-1, 0, 101, LEAST, MOST}) {
                fails(ARGUMENT, () -> b.setKeep(keep));
            }
            is(90, b.count(3));
        });
    }
}
