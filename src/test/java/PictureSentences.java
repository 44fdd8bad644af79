/** The promises of what there is, of the picture and of maps. */
final class PictureSentences extends Sentences {
    private static final String FALLEN = "angle 180 radius 3; down 6; cover 0; pin 1 1 0 0; bead 2 1 0 1; bubble 1 1 2 0;"
        + "glass 1 1 2 1; glass 1 1 3 0;";

    @Override
    void tests() {
        count();
        countOfMoves();
        countOfActs();
        chip();
        chipAt();
        depth();
        account();
        colour();
        brightness();
        reflections();
        source();
        images();
        cellsOf();
        commonest();
        regions();
        regionSize();
        edges();
        light();
        symmetries();
        ownMaps();
        mapped();
        matches();
        noMatch();
    }

    private void count() {
        at("Promise 7");
        test("0: ANGLE; 1: RADIUS; 2: DOWN; 3: KEEP; 4: TICKS", () -> {
            KaleidoscopeBox b = box("angle 45 radius 6; down 7; keep 100; glass 1 1 3 3;");
            int[] due = {45, 6, 7, 100, 0};
            for (int what = 0; what < due.length; what++) {
                is(due[what], b.count(what));
            }
            is(3, b.settle());
            is(3, b.count(4));
            is(1, box(30, 1).count(1));
        });
        test("Returns that number.", () -> {
            KaleidoscopeBox b = box("angle 180 radius 3; down 6; keep 33; cover 0; pin 1 1 0 0; bead 2 1 0 1; bubble 1 1 2 0;"
                + "glass 1 1 2 1; glass 1 1 3 0;");
            b.take(4);
            b.settle();
            int[] due = {180, 3, 6, 33, 2, 5, 4, 28, 49, 28, 1, 4, 1, 1, 8, 2};
            for (int what = 0; what < due.length; what++) {
                is(due[what], b.count(what));
            }
        });
        test("5: chips that came; 6: chips in the box", () -> {
            KaleidoscopeBox b = box(SetupSentences.pins(30));
            is(30, b.count(5));
            is(30, b.count(6));
            b.take(29);
            is(30, b.count(5));
            is(29, b.count(6));
            is(0, new KaleidoscopeBox().count(5));
            is(0, new KaleidoscopeBox().count(6));
        });
        test("7: cells of the box; 8: cells of the picture; 9: cells that are seen", () -> {
            for (int radius = 1; radius <= 6; radius++) {
                int squares = (2 * radius + 1) * (2 * radius + 1);
                int hexagons = 3 * radius * (radius + 1) + 1;
                cells(180, radius, (2 * radius + 1) * (radius + 1), squares);
                cells(90, radius, (radius + 1) * (radius + 1), squares);
                cells(45, radius, (radius + 1) * (radius + 2) / 2, squares);
                cells(60, radius, (radius + 1) * (radius + 2) / 2, hexagons);
                cells(30, radius, (radius + 2) * (radius + 2) / 4, hexagons);
            }
        });
        test("10: the covered mirrors, as a set", () -> {
            KaleidoscopeBox b = box(90, 1);
            is(0, b.count(10));
            b.cover(1, true);
            is(2, b.count(10));
            b.cover(0, true);
            is(3, b.count(10));
            b.cover(1, false);
            is(1, b.count(10));
            b.cover(0, false);
            is(0, b.count(10));
        });
        test("Throws `IllegalArgumentException` if what is out of range", () -> {
            KaleidoscopeBox b = new KaleidoscopeBox();
            for (int what : new int[] {-1, 16, LEAST, MOST}) {
                fails(ARGUMENT, () -> b.count(what));
            }
            is(60, b.count(0));
            is(0, b.count(15));
        });
    }

    private void cells(int angle, int radius, int inBox, int inPicture) {
        KaleidoscopeBox b = box(angle, radius);
        is(inBox, b.count(7));
        is(inPicture, b.count(8));
        is(inPicture, b.count(9));
        b.cover(0, true);
        if (angle != 180) {
            b.cover(1, true);
        }
        is(inBox, b.count(7));
        is(inPicture, b.count(8));
        is(inBox, b.count(9));
    }

    private void countOfMoves() {
        at("Promise 7");
        test("11: moves in ticks so far", () -> {
            KaleidoscopeBox b = box(FALLEN);
            is(0, b.count(11));
            b.push(4, 2);
            is(0, b.count(11));
            b.moves();
            b.bestTurn(1);
            is(0, b.count(11));
            b.settle();
            is(5, b.count(11));
        });
        test("12: exchanges with bubbles of these", () -> {
            KaleidoscopeBox b = box(FALLEN);
            b.settle();
            is(1, b.count(12));
            KaleidoscopeBox rising = box("angle 180 radius 3; down 6; bubble 1 1 0 0;");
            rising.settle();
            is(0, rising.count(12));
        });
        test("13: moves of beads of these in another direction than DOWN", () -> {
            KaleidoscopeBox b = box(FALLEN);
            b.settle();
            is(1, b.count(13));
            KaleidoscopeBox straight = box("angle 180 radius 3; down 6; bead 1 1 0 2; bubble 1 1 0 0;");
            straight.settle();
            is(0, straight.count(13));
            is(4, straight.count(11));
        });
        test("14: directions", () -> {
            for (int angle : ANGLES) {
                is(angle == 60 || angle == 30 ? 6 : 8, box(angle, 1).count(14));
            }
        });
    }

    private void countOfActs() {
        at("Promise 7");
        test("15: acts that can be undone", () -> {
            KaleidoscopeBox b = new KaleidoscopeBox();
            for (int acts = 1; acts <= 10; acts++) {
                b.turn(1);
                is(Math.min(acts, 8), b.count(15));
            }
            b.undo();
            is(7, b.count(15));
            b.tick();
            is(7, b.count(15));
            b.save(0);
            is(7, b.count(15));
            b.restore(0);
            is(0, b.count(15));
        });
    }

    private void chip() {
        at("Promise 8");
        test("0: its kind; 1: its colour; 2: its weight; 3: its x; 4: its y", () -> {
            KaleidoscopeBox b = box("angle 180 radius 3; pin 9 1 -3 3; glass 1 9 0 0;");
            int[][] due = {{3, 9, 1, -3, 3}, {0, 1, 9, 0, 0}};
            for (int chip = 0; chip < 2; chip++) {
                for (int what = 0; what < 5; what++) {
                    is(due[chip][what], b.chip(chip, what));
                }
            }
        });
        test("Returns that number.", () -> {
            KaleidoscopeBox b = box("angle 90 radius 6; bubble 8 9 6 5;");
            b.push(0, 6);
            b.tick();
            b.paint(0, 7);
            int[] due = {2, 7, 9, 5, 4, 1};
            for (int what = 0; what < due.length; what++) {
                is(due[what], b.chip(0, what));
            }
        });
        test("(3 and 4: NOWHERE if it is not in the box)", () -> {
            KaleidoscopeBox b = box("angle 180 radius 3; pin 9 1 -3 3; glass 1 9 0 0;");
            b.take(0);
            is(NOWHERE, b.chip(0, 3));
            is(NOWHERE, b.chip(0, 4));
            is(3, b.chip(0, 0));
            is(9, b.chip(0, 1));
            is(1, b.chip(0, 2));
            is(0, b.chip(0, 5));
            is(0, b.chip(1, 3));
            b.undo();
            is(-3, b.chip(0, 3));
        });
        test("5: how often it moved in its own try", () -> {
            KaleidoscopeBox b = box("angle 180 radius 3; down 6; bubble 4 7 -2 1; glass 8 2 -2 3; pin 1 9 3 3;");
            is(0, b.chip(0, 5));
            is(3, b.settle());
            is(1, b.chip(0, 5));
            is(3, b.chip(1, 5));
            is(0, b.chip(2, 5));
            b.push(1, 2);
            is(3, b.chip(1, 5));
        });
        test("Throws `IndexOutOfBoundsException` if there is no such chip", () -> {
            KaleidoscopeBox b = box("angle 180 radius 3; pin 9 1 -3 3; glass 1 9 0 0;");
            for (int chip : new int[] {-1, 2, 29, 30, LEAST, MOST}) {
                fails(INDEX, () -> b.chip(chip, 0));
            }
            is(0, b.chip(1, 0));
            KaleidoscopeBox full = box(SetupSentences.pins(30));
            is(3, full.chip(29, 0));
            fails(INDEX, () -> full.chip(30, 0));
            fails(INDEX, () -> new KaleidoscopeBox().chip(0, 0));
        });
        test("Throws `IllegalArgumentException` if what is out of range", () -> {
            KaleidoscopeBox b = box("angle 180 radius 3; pin 9 1 -3 3;");
            for (int what : new int[] {-1, 6, LEAST, MOST}) {
                fails(ARGUMENT, () -> b.chip(0, what));
            }
        });
    }

    private void chipAt() {
        at("Promise 9");
        test("Returns the chip in this cell of the box; NONE if there is none.", () -> {
            KaleidoscopeBox b = box("angle 45 radius 2; pin 1 1 2 2; bead 3 3 1 0;");
            is(0, b.chipAt(2, 2));
            is(1, b.chipAt(1, 0));
            is(NONE, b.chipAt(0, 0));
            is(NONE, b.chipAt(2, 0));
            b.take(0);
            is(NONE, b.chipAt(2, 2));
        });
        test("Throws `IndexOutOfBoundsException` if the cell is not in the box", () -> {
            KaleidoscopeBox b = box("angle 45 radius 2; pin 1 1 2 2; bead 3 3 1 0;");
            int[][] outside = {{1, 2}, {1, -1}, {-1, 0}, {-2, -2}, {3, 0}, {3, 3}, {LEAST, LEAST}, {MOST, MOST}};
            for (int[] cell : outside) {
                fails(INDEX, () -> b.chipAt(cell[0], cell[1]));
            }
        });
    }

    private void depth() {
        at("Promise 10");
        test("Returns its depth.", () -> {
            KaleidoscopeBox b = box("angle 90 radius 3; down 7;");
            is(-6, b.depth(-3, 3));
            is(6, b.depth(3, -3));
            is(1, b.turn(2));
            is(0, b.depth(-3, 3));
            is(6, b.depth(3, 3));
            is(0, b.depth(0, 0));
            is(-3, box("angle 60 radius 3; down 3;").depth(3, -3));
        });
        test("Throws `IndexOutOfBoundsException` if the cell is not in the picture", () -> {
            KaleidoscopeBox b = box(90, 3);
            KaleidoscopeBox h = box(60, 3);
            int[][] outside = {{4, 0}, {0, -4}, {4, -4}, {LEAST, LEAST}, {MOST, LEAST}, {0, MOST}};
            for (int[] cell : outside) {
                fails(INDEX, () -> b.depth(cell[0], cell[1]));
                fails(INDEX, () -> h.depth(cell[0], cell[1]));
            }
            fails(INDEX, () -> h.depth(2, 2));
            fails(INDEX, () -> h.depth(-2, -2));
        });
    }

    private void account() {
        at("Promise 11");
        test("0: acts that were done; 1 to 5: refusals with this reason", () -> {
            KaleidoscopeBox b = box("angle 90 radius 1; down 6; pin 1 1 0 0; bead 1 1 1 0;");
            b.tick();
            b.settle();
            b.push(0, 0);
            b.push(0, 4);
            b.push(0, 2);
            b.take(1);
            b.take(1);
            for (int chip = 2; chip < 30; chip++) {
                b.add(3, 1, 1, 1, 1);
                b.take(chip);
            }
            b.add(3, 1, 1, 1, 1);
            int[] due = {2 + 28 + 28, 1, 1, 1, 1, 2};
            for (int what = 0; what < due.length; what++) {
                is(due[what], b.account(what));
            }
        });
        test("(acts that were undone count, too)", () -> {
            KaleidoscopeBox b = new KaleidoscopeBox();
            b.turn(1);
            b.undo();
            is(1, b.account(0));
            b.undo();
            is(1, b.account(0));
            for (int acts = 2; acts <= 12; acts++) {
                b.turn(1);
                is(acts, b.account(0));
            }
        });
        test("Throws `IllegalArgumentException` if what is out of range", () -> {
            KaleidoscopeBox b = new KaleidoscopeBox();
            for (int what : new int[] {-1, 6, LEAST, MOST}) {
                fails(ARGUMENT, () -> b.account(what));
            }
        });
    }

    private void outsideOfPicture(Asked asked) {
        int[][] outside = {{4, 0}, {-4, 0}, {0, 4}, {0, -4}, {4, -4}, {LEAST, LEAST}, {MOST, MOST}, {MOST, LEAST},
            {LEAST, 0}, {0, MOST}};
        for (int angle : ANGLES) {
            KaleidoscopeBox b = box(angle, 3);
            for (int[] cell : outside) {
                fails(INDEX, () -> asked.of(b, cell[0], cell[1]));
            }
            asked.of(b, 3, -3);
            if (angle == 60 || angle == 30) {
                fails(INDEX, () -> asked.of(b, 1, 3));
                fails(INDEX, () -> asked.of(b, -3, -1));
            }
        }
    }

    private interface Asked {
        void of(KaleidoscopeBox b, int x, int y);
    }

    private void colour() {
        at("Promise 12");
        test("Returns its colour.", () -> {
            KaleidoscopeBox b = box("angle 90 radius 1; pin 9 1 1 1; pin 1 1 0 0;");
            is(9, b.colour(-1, -1));
            is(1, b.colour(0, 0));
            is(0, b.colour(-1, 0));
            b.cover(1, true);
            is(9, b.colour(1, -1));
            is(0, b.colour(-1, 1));
        });
        test("Throws `IndexOutOfBoundsException` if the cell is not in the picture", () ->
            outsideOfPicture(KaleidoscopeBox::colour));
    }

    private void brightness() {
        at("Promise 13");
        test("Returns its brightness.", () -> {
            KaleidoscopeBox b = box("angle 90 radius 1; keep 55;");
            is(1000, b.brightness(1, 1));
            is(550, b.brightness(-1, 1));
            is(302, b.brightness(-1, -1));
            b.cover(1, true);
            is(0, b.brightness(-1, 1));
        });
        test("Throws `IndexOutOfBoundsException` if the cell is not in the picture", () ->
            outsideOfPicture(KaleidoscopeBox::brightness));
    }

    private void reflections() {
        at("Promise 14");
        test("Returns its reflections; NONE if it is not seen.", () -> {
            KaleidoscopeBox b = box(90, 1);
            is(0, b.reflections(1, 1));
            is(0, b.reflections(0, 0));
            is(1, b.reflections(-1, 1));
            is(1, b.reflections(0, -1));
            is(2, b.reflections(-1, -1));
            b.cover(1, true);
            is(NONE, b.reflections(-1, 1));
            is(NONE, b.reflections(-1, -1));
            is(1, b.reflections(1, -1));
        });
        test("Throws `IndexOutOfBoundsException` if the cell is not in the picture", () ->
            outsideOfPicture(KaleidoscopeBox::reflections));
    }

    private void source() {
        at("Promise 15");
        test("Returns that number; NOWHERE if the cell is not seen.", () -> {
            KaleidoscopeBox b = box(60, 3);
            is(1, b.source(2, -1, false));
            is(1, b.source(2, -1, true));
            is(1, b.source(-2, -1, false));
            is(2, b.source(-2, -1, true));
            is(0, b.source(0, 0, false));
            b.cover(1, true);
            is(NOWHERE, b.source(-2, -1, false));
            is(NOWHERE, b.source(-2, -1, true));
        });
        test("Throws `IndexOutOfBoundsException` if the cell is not in the picture", () -> {
            outsideOfPicture((b, x, y) -> b.source(x, y, false));
            outsideOfPicture((b, x, y) -> b.source(x, y, true));
        });
    }

    private void images() {
        at("Promise 16");
        test("Returns how many cells of the picture that are seen (itself, too) have this cell of the box as their"
            + " source.", () -> {
            int[][] due = {{180, 2, 1, 1}, {90, 4, 2, 1}, {45, 8, 4, 1}, {60, 6, 3, 1}, {30, 12, 6, 1}};
            for (int[] row : due) {
                KaleidoscopeBox b = box(row[0], 3);
                is(row[1], b.images(2, 1));
                is(row[2], b.images(2, 0));
                is(row[3], b.images(0, 0));
                b.cover(0, true);
                is(row[0] == 180 ? 1 : 2, b.images(2, 1));
                is(1, b.images(0, 0));
            }
            KaleidoscopeBox dark = box("angle 60 radius 3; cover 0; cover 1;");
            is(1, dark.images(1, 2));
        });
        test("Throws `IndexOutOfBoundsException` if the cell is not in the box", () -> {
            KaleidoscopeBox b = box(60, 3);
            int[][] outside = {{-1, 2}, {2, -1}, {2, 2}, {4, 0}, {0, 4}, {LEAST, LEAST}, {MOST, MOST}};
            for (int[] cell : outside) {
                fails(INDEX, () -> b.images(cell[0], cell[1]));
            }
        });
    }

    private void cellsOf() {
        at("Promise 17");
        test("0 to 9", () -> {
            KaleidoscopeBox b = box("angle 90 radius 1; pin 9 1 1 1; pin 1 1 0 0;");
            is(4, b.cellsOf(0));
            is(1, b.cellsOf(1));
            is(4, b.cellsOf(9));
        });
        test("Returns how many cells of the picture have this colour.", () -> {
            KaleidoscopeBox b = box("angle 90 radius 2; glass 9 1 0 0; pin 4 1 1 0; bead 4 1 2 2; bubble 1 1 0 1;");
            int[] due = {16, 2, 0, 0, 6, 0, 0, 0, 0, 1};
            for (int colour = 0; colour <= 9; colour++) {
                is(due[colour], b.cellsOf(colour));
            }
            b.cover(1, true);
            is(19, b.cellsOf(0));
            is(3, b.cellsOf(4));
            is(25, box(90, 2).cellsOf(0));
            is(169, full().cellsOf(3));
            is(0, full().cellsOf(0));
        });
        test("Throws `IllegalArgumentException` if colour is out of range", () -> {
            KaleidoscopeBox b = new KaleidoscopeBox();
            for (int colour : new int[] {-1, 10, LEAST, MOST}) {
                fails(ARGUMENT, () -> b.cellsOf(colour));
            }
        });
    }

    /** The greatest picture of all, each cell with colour 3. */
    private static KaleidoscopeBox full() {
        StringBuilder setup = new StringBuilder("angle 45 radius 6;");
        for (int x = 0; x <= 6; x++) {
            for (int y = 0; y <= x; y++) {
                setup.append("pin 3 1 ").append(x).append(' ').append(y).append(';');
            }
        }
        return box(setup.toString());
    }

    private void commonest() {
        at("Promise 18");
        test("0 for the colour that most cells of the picture have, 1 for the next one, and so on", () -> {
            KaleidoscopeBox b = box("angle 90 radius 2; pin 1 1 0 0; pin 2 1 1 0; pin 9 1 1 1;");
            is(9, b.commonest(0));
            is(2, b.commonest(1));
            is(1, b.commonest(2));
            b.cover(0, true);
            b.cover(1, true);
            b.add(3, 9, 1, 2, 2);
            is(9, b.commonest(0));
            is(1, b.commonest(1));
        });
        test("0 is no colour here", () -> {
            KaleidoscopeBox b = box("angle 180 radius 6; cover 0; pin 9 1 0 0;");
            is(168, b.cellsOf(0));
            is(9, b.commonest(0));
            is(NONE, b.commonest(1));
        });
        test("of several with as many cells the lower one comes first", () -> {
            KaleidoscopeBox b = box(180, 4);
            for (int colour = 9; colour >= 1; colour--) {
                b.add(3, colour, 1, colour - 5, 0);
            }
            for (int rank = 0; rank <= 8; rank++) {
                is(rank + 1, b.commonest(rank));
            }
        });
        test("colours that no cell has are left out", () -> {
            KaleidoscopeBox b = box("angle 180 radius 2; pin 5 1 0 0; pin 8 1 1 0;");
            is(5, b.commonest(0));
            is(8, b.commonest(1));
            is(NONE, b.commonest(2));
            b.take(0);
            is(8, b.commonest(0));
            is(NONE, b.commonest(1));
        });
        test("Returns that colour; NONE if there are not so many.", () -> {
            is(NONE, new KaleidoscopeBox().commonest(0));
            is(NONE, new KaleidoscopeBox().commonest(8));
            KaleidoscopeBox b = box("angle 180 radius 2; pin 5 1 0 0;");
            is(5, b.commonest(0));
            is(NONE, b.commonest(1));
            is(NONE, b.commonest(8));
        });
        test("Throws `IllegalArgumentException` if rank is not 0 to 8", () -> {
            KaleidoscopeBox b = new KaleidoscopeBox();
            for (int rank : new int[] {-1, 9, LEAST, MOST}) {
                fails(ARGUMENT, () -> b.commonest(rank));
            }
        });
    }

    private void regions() {
        at("Promise 19");
        test("1 to 9; 0 for all of them together", () -> {
            KaleidoscopeBox b = box("angle 180 radius 3; cover 0; pin 1 1 0 0; pin 1 1 2 0; pin 9 1 1 0; pin 9 1 -3 3;");
            is(2, b.regions(1));
            is(2, b.regions(9));
            is(4, b.regions(0));
        });
        test("Returns how many regions there are.", () -> {
            is(0, new KaleidoscopeBox().regions(0));
            is(0, new KaleidoscopeBox().regions(1));
            is(1, full().regions(0));
            is(1, full().regions(3));
            is(0, full().regions(4));
            // The corners of the greatest picture.
            is(4, box("angle 45 radius 6; pin 2 1 6 6;").regions(2));
            is(6, box("angle 30 radius 6; pin 2 1 6 0;").regions(0));
            is(1, box("angle 30 radius 6; pin 2 1 0 0;").regions(0));
        });
        test("Throws `IllegalArgumentException` if colour is out of range", () -> {
            KaleidoscopeBox b = new KaleidoscopeBox();
            for (int colour : new int[] {-1, 10, LEAST, MOST}) {
                fails(ARGUMENT, () -> b.regions(colour));
            }
        });
    }

    private void regionSize() {
        at("Promise 20");
        test("Returns how many cells the region of this cell has; 0 if its colour is 0.", () -> {
            KaleidoscopeBox b = box("angle 180 radius 3; pin 1 1 0 1; pin 1 1 1 2; pin 1 1 3 2; pin 7 1 -3 0; pin 7 1 -2 1;");
            is(2, b.regionSize(0, 1));
            is(2, b.regionSize(1, -2));
            is(1, b.regionSize(3, 2));
            is(3, b.regionSize(-2, -1));
            is(0, b.regionSize(0, 0));
            is(0, b.regionSize(3, 3));
            b.cover(0, true);
            is(2, b.regionSize(-3, 0));
            is(0, b.regionSize(-2, -1));
            is(169, full().regionSize(-6, -6));
            is(0, new KaleidoscopeBox().regionSize(0, 0));
        });
        test("Throws `IndexOutOfBoundsException` if the cell is not in the picture", () ->
            outsideOfPicture(KaleidoscopeBox::regionSize));
    }

    private void edges() {
        at("Promise 21");
        test("Returns how many pairs of neighbours of the picture have different colours, none of them 0.", () -> {
            KaleidoscopeBox b = box("angle 180 radius 2; cover 0; pin 1 1 0 0; pin 2 1 1 0; pin 3 1 0 1; pin 1 1 1 1;");
            is(5, b.edges());
            KaleidoscopeBox h = box("angle 60 radius 2; cover 0; cover 1; pin 1 1 0 0; pin 2 1 1 0; pin 3 1 0 1; pin 4 1 1 1;");
            is(5, h.edges());
            is(0, new KaleidoscopeBox().edges());
            is(0, box("angle 180 radius 2; cover 0; pin 1 1 0 0;").edges());
            is(0, box("angle 180 radius 2; cover 0; pin 1 1 0 0; pin 1 1 1 0;").edges());
            is(0, full().edges());
            // The two ends of a row are no neighbours of the next row's.
            is(1, box("angle 180 radius 6; cover 0; pin 1 1 6 0; pin 2 1 -6 1; pin 3 1 -6 2;").edges());
            is(8, box("angle 90 radius 1; pin 1 1 0 0; pin 2 1 1 0; pin 2 1 0 1; pin 2 1 1 1;").edges());
        });
    }

    private void light() {
        at("Promise 22");
        test("Returns the sum of the brightness of all cells of the picture that have a colour other than 0.", () -> {
            KaleidoscopeBox b = box("angle 90 radius 2; keep 50; pin 1 1 0 0; pin 9 1 2 1;");
            is(1000 + 1000 + 500 + 500 + 250, b.light());
            b.cover(1, true);
            is(1000 + 1000 + 500, b.light());
            b.take(0);
            is(1500, b.light());
            b.take(1);
            is(0, b.light());
            is(0, new KaleidoscopeBox().light());
        });
    }

    private void symmetries() {
        at("Promise 23");
        test("Returns the maps that the picture has, as a set.", () -> {
            KaleidoscopeBox b = box("angle 90 radius 2; pin 1 1 2 1;");
            is(0x55, b.symmetries());
            b.cover(0, true);
            is(1 | 1 << 6, b.symmetries());
            b.cover(1, true);
            is(1, b.symmetries());
            b.take(0);
            is(0xFF, b.symmetries());
            is(0xFFF, new KaleidoscopeBox().symmetries());
            is(0xFF, full().symmetries());
            is(0xFFF, box("angle 30 radius 6; pin 1 1 2 1;").symmetries());
            is(1 | 1 << 6, box("angle 60 radius 3; cover 0; cover 1; pin 1 1 3 0;").symmetries());
            is(1 | 1 << 7, box("angle 60 radius 3; cover 0; cover 1; pin 1 1 1 1;").symmetries());
        });
    }

    private void ownMaps() {
        at("Promise 24");
        test("Returns the own maps, as a set.", () -> {
            int[][] due = {{180, 17}, {90, 85}, {45, 255}, {60, 1365}, {30, 4095}};
            for (int[] row : due) {
                is(row[1], box(row[0], 1).ownMaps());
                is(row[1], box("angle " + row[0] + " radius 6; cover 0; pin 1 1 2 1;").ownMaps());
            }
        });
    }

    private void mapped() {
        at("Promise 25");
        test("Returns that number.", () -> {
            KaleidoscopeBox b = box(45, 6);
            int[][] squares = {{6, 1}, {-1, 6}, {-6, -1}, {1, -6}, {6, -1}, {1, 6}, {-6, 1}, {-1, -6}};
            for (int map = 0; map < 8; map++) {
                is(squares[map][0], b.mapped(map, 6, 1, false));
                is(squares[map][1], b.mapped(map, 6, 1, true));
            }
            KaleidoscopeBox h = box(60, 6);
            int[][] hexagons = {{6, 0}, {0, 6}, {-6, 6}, {-6, 0}, {0, -6}, {6, -6}, {6, 0}, {0, 6}, {-6, 6}, {-6, 0},
                {0, -6}, {6, -6}};
            for (int map = 0; map < 12; map++) {
                is(hexagons[map][0], h.mapped(map, 6, 0, false));
                is(hexagons[map][1], h.mapped(map, 6, 0, true));
            }
        });
        test("Throws `IndexOutOfBoundsException` if there is no such map", () -> {
            for (int map : new int[] {-1, 8, LEAST, MOST}) {
                fails(INDEX, () -> box(45, 1).mapped(map, 0, 0, true));
            }
            for (int map : new int[] {-1, 12, LEAST, MOST}) {
                fails(INDEX, () -> box(30, 1).mapped(map, 0, 0, true));
            }
        });
        test("or the cell is not in the picture", () -> {
            outsideOfPicture((b, x, y) -> b.mapped(0, x, y, false));
            outsideOfPicture((b, x, y) -> b.mapped(7, x, y, true));
        });
    }

    private void matches() {
        at("Promise 26");
        test("Returns the lowest map that brings each cell of the picture of that state to a cell that has the same"
            + " colour now", () -> {
            KaleidoscopeBox b = box("angle 180 radius 2; cover 0; pin 3 1 -2 1;");
            b.save(0);
            is(0, b.matches(0));
            b.push(0, 1);
            b.push(0, 0);
            b.push(0, 0);
            is(3, b.matches(0));
            b.push(0, 7);
            is(6, b.matches(0));
            // Not the other way round: that would be map 1.
            Due.load(b, "angle 90 radius 2; cover 0; cover 1; pin 3 9 1 2;");
            is(3, b.matches(0));
            // Two maps do, 1 and 6.
            Due.load(b, "angle 90 radius 2; cover 0; cover 1; pin 5 1 1 1;");
            b.save(1);
            Due.load(b, "angle 180 radius 2; cover 0; pin 5 1 -1 1;");
            is(1, b.matches(1));
            KaleidoscopeBox last = box("angle 180 radius 3; cover 0; pin 1 1 -2 1; pin 2 1 0 3;");
            last.save(0);
            Due.load(last, "angle 180 radius 3; cover 0; pin 1 1 -1 2; pin 2 1 -3 0;");
            is(7, last.matches(0));
        });
        test("of that state", () -> {
            // The saved state's own mirrors show its picture.
            KaleidoscopeBox b = box("angle 180 radius 2; pin 3 1 1 1;");
            b.save(0);
            b.cover(0, true);
            is(NONE, b.matches(0));
            b.save(1);
            b.cover(0, false);
            is(0, b.matches(0));
            is(NONE, b.matches(1));
        });
        test("Throws `IllegalArgumentException` if slot is not 0 or 1", () -> {
            KaleidoscopeBox b = box(90, 1);
            b.save(0);
            b.save(1);
            for (int slot : new int[] {-1, 2, LEAST, MOST}) {
                fails(ARGUMENT, () -> b.matches(slot));
            }
            is(0, b.matches(0));
            is(0, b.matches(1));
        });
        test("Throws `IllegalStateException` if nothing is saved there", () -> {
            KaleidoscopeBox b = box(90, 1);
            fails(STATE, () -> b.matches(0));
            fails(STATE, () -> b.matches(1));
            b.save(1);
            fails(STATE, () -> b.matches(0));
            is(0, b.matches(1));
        });
    }

    private void noMatch() {
        at("Promise 26");
        test("NONE if there is none", () -> {
            KaleidoscopeBox b = box("angle 180 radius 2; cover 0; pin 3 1 -2 1;");
            b.save(0);
            b.paint(0, 4);
            is(NONE, b.matches(0));
            b.paint(0, 3);
            b.push(0, 0);
            is(NONE, b.matches(0));
            b.push(0, 4);
            b.add(3, 1, 1, 0, 0);
            is(NONE, b.matches(0));
            b.take(1);
            b.take(0);
            is(NONE, b.matches(0));
        });
        test("if RADIUS is another one", () -> {
            KaleidoscopeBox b = box(90, 1);
            b.save(0);
            Due.load(b, "angle 90 radius 2;");
            is(NONE, b.matches(0));
            b.save(1);
            Due.load(b, "angle 90 radius 1;");
            is(NONE, b.matches(1));
            is(0, b.matches(0));
        });
        test("or if one of both has squares and the other one hexagons.", () -> {
            KaleidoscopeBox b = box(90, 1);
            b.save(0);
            Due.load(b, "angle 60 radius 1;");
            is(NONE, b.matches(0));
            b.save(1);
            Due.load(b, "angle 45 radius 1;");
            is(NONE, b.matches(1));
            is(0, b.matches(0));
            Due.load(b, "angle 30 radius 1;");
            is(0, b.matches(1));
        });
    }
}
