/** The terms CELLS, MIRRORS AND IMAGES, and MAPS. */
final class CellSentences extends Sentences {
    private static final int[][] SQUARE_STEPS = {{1, 0}, {1, 1}, {0, 1}, {-1, 1}, {-1, 0}, {-1, -1}, {0, -1}, {1, -1}};
    private static final int[][] HEXAGON_STEPS = {{1, 0}, {0, 1}, {-1, 1}, {-1, 0}, {0, -1}, {1, -1}};

    @Override
    void tests() {
        calls();
        cells();
        directions();
        distances();
        boxes();
        mirrors();
        seen();
        brightness();
        maps();
        ownMaps();
        regions();
    }

    private void calls() {
        at("What it is");
        test("An object is used for at most 512 calls after it has been made", () -> {
            KaleidoscopeBox b = new KaleidoscopeBox();
            for (int call = 1; call < 512; call++) {
                b.turn(5);
            }
            is(511, b.account(0));
            KaleidoscopeBox texts = new KaleidoscopeBox();
            for (int call = 1; call < 511; call += 2) {
                texts.appendText(0x3B3B3B3B);
                texts.load();
            }
            is(0, texts.errorPosition());
        });
    }

    private void cells() {
        at("CELLS");
        test("A cell has an x and a y (whole numbers, also below 0).", () -> {
            KaleidoscopeBox b = box("angle 180 radius 6; pin 4 1 -6 6;");
            is(-6, b.chip(0, 3));
            is(6, b.chip(0, 4));
            is(0, b.chipAt(-6, 6));
            is(4, b.colour(-6, -6));
            is(-6, b.source(-6, -6, false));
            is(-6, b.mapped(2, 6, 6, true));
        });
        test("ANGLE is 180, 90, 45, 60 or 30.", () -> {
            for (int angle : ANGLES) {
                is(angle, box(angle, 1).count(0));
            }
            for (int angle : new int[] {0, 1, 15, 29, 31, 44, 46, 59, 61, 89, 91, 120, 179, 181, 360}) {
                KaleidoscopeBox b = new KaleidoscopeBox();
                is(NONE, Due.load(b, "angle " + angle + " radius 1;"));
                is(2, b.errorCode());
                is(60, b.count(0));
            }
        });
        test("The picture has all cells with a distance of at most RADIUS (1 to 6).", () -> {
            for (int angle : ANGLES) {
                is(NONE, Due.load(new KaleidoscopeBox(), "angle " + angle + " radius 0;"));
                is(NONE, Due.load(new KaleidoscopeBox(), "angle " + angle + " radius 7;"));
                boolean areSquares = angle == 180 || angle == 90 || angle == 45;
                is(areSquares ? 9 : 7, box(angle, 1).count(8));
                is(areSquares ? 169 : 127, box(angle, 6).count(8));
                for (int radius = 1; radius <= 6; radius++) {
                    rim(box(angle, radius), radius);
                }
            }
        });
    }

    private void rim(KaleidoscopeBox b, int radius) {
        int beyond = radius + 1;
        is(0, b.colour(radius, 0));
        is(0, b.colour(-radius, 0));
        is(0, b.colour(0, radius));
        is(0, b.colour(0, -radius));
        fails(INDEX, () -> b.colour(beyond, 0));
        fails(INDEX, () -> b.colour(-beyond, 0));
        fails(INDEX, () -> b.colour(0, beyond));
        fails(INDEX, () -> b.colour(0, -beyond));
    }

    private void directions() {
        at("CELLS");
        test("there are 8 directions, numbered from 0", () -> {
            for (int angle : new int[] {180, 90, 45}) {
                lastDirection(angle, 8);
            }
        });
        test("their steps (what is added to x and to y) are 1 0, 1 1, 0 1, -1 1, -1 0, -1 -1, 0 -1, 1 -1", () -> {
            steps(box("angle 180 radius 2; pin 1 1 0 1;"), SQUARE_STEPS);
            steps(box("angle 90 radius 2; pin 1 1 1 1;"), SQUARE_STEPS);
            steps(box("angle 45 radius 4; pin 1 1 3 1;"), SQUARE_STEPS);
        });
        test("there are 6 directions, numbered from 0", () -> {
            lastDirection(60, 6);
            lastDirection(30, 6);
        });
        test("numbered from 0: 1 0, 0 1, -1 1, -1 0, 0 -1, 1 -1", () -> {
            steps(box("angle 60 radius 3; pin 1 1 1 1;"), HEXAGON_STEPS);
            steps(box("angle 30 radius 5; pin 1 1 3 1;"), HEXAGON_STEPS);
        });
        test("Two cells are neighbours if a direction leads from one to the other.", () -> {
            String squares = "angle 180 radius 2; cover 0; pin 1 1 0 0; pin 1 1 ";
            is(1, box(squares + "1 1;").regions(1));
            is(1, box(squares + "-1 1;").regions(1));
            is(1, box(squares + "0 1;").regions(1));
            is(2, box(squares + "2 0;").regions(1));
            is(2, box(squares + "1 2;").regions(1));
            String hexagons = "angle 60 radius 2; cover 0; cover 1; pin 1 1 1 0; pin 1 1 ";
            is(1, box(hexagons + "0 1;").regions(1));
            is(1, box(hexagons + "2 0;").regions(1));
            is(1, box(hexagons + "1 1;").regions(1));
            is(2, box(hexagons + "0 2;").regions(1));
            is(2, box("angle 60 radius 2; cover 0; cover 1; pin 1 1 0 0; pin 1 1 1 1;").regions(1));
        });
    }

    private void lastDirection(int angle, int directions) {
        String setup = "angle " + angle + " radius 3; pin 1 1 1 0; down ";
        KaleidoscopeBox b = box(setup + (directions - 1) + ";");
        is(directions, b.count(14));
        is(directions - 1, b.count(2));
        is(0, b.turn(1));
        is(-4, b.push(0, directions - 1));
        fails(INDEX, () -> b.push(0, directions));
        fails(INDEX, () -> b.push(0, -1));
        fails(INDEX, () -> b.push(0, LEAST));
        fails(INDEX, () -> b.push(0, MOST));
        is(0, b.push(0, 0));
        is(NONE, Due.load(b, setup + directions + ";"));
        is(2, b.errorCode());
    }

    private void steps(KaleidoscopeBox b, int[][] steps) {
        int x = b.chip(0, 3);
        int y = b.chip(0, 4);
        for (int direction = 0; direction < steps.length; direction++) {
            is(0, b.push(0, direction));
            is(x + steps[direction][0], b.chip(0, 3));
            is(y + steps[direction][1], b.chip(0, 4));
            b.undo();
        }
    }

    private void distances() {
        at("CELLS");
        test("the distance of a cell is the greater one of x and y without signs.", () -> {
            int[][] inside = {{2, 2}, {-2, 2}, {2, -2}, {-2, -2}, {2, 0}, {0, -2}, {1, -2}};
            int[][] outside = {{3, 0}, {-3, 0}, {0, 3}, {0, -3}, {3, 3}, {-3, 2}, {2, -3}, {LEAST, 0}, {0, LEAST},
                {LEAST, LEAST}, {MOST, 0}, {0, MOST}, {MOST, LEAST}, {1 << 16, 0}, {0, 1 << 29}, {-225, 15}, {15, -1}};
            for (int angle : new int[] {180, 90, 45}) {
                distances(box(angle, 2), inside, outside);
            }
        });
        test("the distance of a cell is the greatest one of x, y and x + y without signs.", () -> {
            int[][] inside = {{2, -2}, {-2, 2}, {2, 0}, {0, 2}, {-2, 0}, {0, -2}, {1, 1}, {-1, -1}};
            int[][] outside = {{2, 1}, {1, 2}, {-2, -1}, {-1, -2}, {2, 2}, {-2, -2}, {3, -1}, {-1, 3}, {3, -3}, {-3, 3},
                {LEAST, LEAST}, {MOST, LEAST}, {LEAST, 0}, {MOST, 1}, {MOST, MOST}, {MOST, -MOST}, {1 << 30, 1 << 30}};
            for (int angle : new int[] {60, 30}) {
                distances(box(angle, 2), inside, outside);
            }
        });
    }

    private void distances(KaleidoscopeBox b, int[][] inside, int[][] outside) {
        for (int[] cell : inside) {
            is(0, b.colour(cell[0], cell[1]));
        }
        for (int[] cell : outside) {
            fails(INDEX, () -> b.colour(cell[0], cell[1]));
            fails(INDEX, () -> b.chipAt(cell[0], cell[1]));
        }
    }

    private interface Part {
        boolean has(int x, int y);
    }

    private void boxes() {
        at("CELLS");
        test("with y at least 0 (ANGLE 180)", () -> boxIs(180, (x, y) -> y >= 0));
        test("with x and y at least 0 (90, 60)", () -> {
            boxIs(90, (x, y) -> x >= 0 && y >= 0);
            boxIs(60, (x, y) -> x >= 0 && y >= 0);
        });
        test("with y at least 0 and x at least y (45, 30)", () -> {
            boxIs(45, (x, y) -> y >= 0 && x >= y);
            boxIs(30, (x, y) -> y >= 0 && x >= y);
        });
    }

    private void boxIs(int angle, Part part) {
        boolean areHexagons = angle == 60 || angle == 30;
        for (int radius = 1; radius <= 6; radius++) {
            KaleidoscopeBox b = box(angle, radius);
            int cells = 0;
            for (int y = -radius; y <= radius; y++) {
                for (int x = -radius; x <= radius; x++) {
                    int column = x;
                    int row = y;
                    if (part.has(x, y) && !(areHexagons && Math.abs(x + y) > radius)) {
                        is(NONE, b.chipAt(x, y));
                        cells++;
                    } else {
                        fails(INDEX, () -> b.chipAt(column, row));
                    }
                }
            }
            is(cells, b.count(7));
        }
    }

    /** The sources of cells with one mirror alone; rows of x, y, x of the source, y of the source. */
    private void sources(int angle, int covered, int[][] rows) {
        KaleidoscopeBox b = box("angle " + angle + " radius 3; cover " + covered + ";");
        for (int[] row : rows) {
            is(row[2], b.source(row[0], row[1], false));
            is(row[3], b.source(row[0], row[1], true));
        }
    }

    private void mirrors() {
        at("MIRRORS AND IMAGES");
        test("Mirror 0 brings the cell x, y to x, -y (squares) or to x + y, -y (hexagons).", () -> {
            sources(90, 1, new int[][] {{2, -3, 2, 3}, {3, -1, 3, 1}, {-1, -1, NOWHERE, NOWHERE}});
            sources(45, 1, new int[][] {{2, -1, 2, 1}, {3, -3, 3, 3}, {1, -2, NOWHERE, NOWHERE}});
            sources(60, 1, new int[][] {{3, -3, 0, 3}, {3, -1, 2, 1}, {1, -2, NOWHERE, NOWHERE}});
            sources(30, 1, new int[][] {{3, -1, 2, 1}, {2, -1, 1, 1}, {3, -2, NOWHERE, NOWHERE}});
            is(-2, box(180, 3).source(-2, -1, false));
            is(1, box(180, 3).source(-2, -1, true));
        });
        test("Mirror 1 brings it to -x, y (ANGLE 90), to -x, x + y (60), to y, x (45, 30)", () -> {
            sources(90, 0, new int[][] {{-2, 1, 2, 1}, {-3, 0, 3, 0}, {2, -1, NOWHERE, NOWHERE}});
            sources(60, 0, new int[][] {{-1, 3, 1, 2}, {-3, 3, 3, 0}, {-1, 0, NOWHERE, NOWHERE}});
            sources(45, 0, new int[][] {{1, 3, 3, 1}, {0, 3, 3, 0}, {-1, 3, NOWHERE, NOWHERE}});
            sources(30, 0, new int[][] {{1, 2, 2, 1}, {0, 3, 3, 0}, {-1, 3, NOWHERE, NOWHERE}});
        });
        test("with ANGLE 180 there is no mirror 1", () -> {
            KaleidoscopeBox b = box(180, 2);
            fails(INDEX, () -> b.cover(1, true));
            fails(INDEX, () -> b.cover(1, false));
            is(NONE, Due.load(b, "angle 180 radius 2; cover 1;"));
            is(2, b.errorCode());
            is(NOWHERE, box("angle 180 radius 2; cover 0;").source(-1, -1, false));
            for (int angle : new int[] {90, 45, 60, 30}) {
                is(2, box("angle " + angle + " radius 2; cover 1;").count(10));
            }
        });
        test("A mirror is covered or not (not at first).", () -> {
            is(0, new KaleidoscopeBox().count(10));
            for (int angle : ANGLES) {
                KaleidoscopeBox b = box("angle " + angle + " radius 1; cover 0;");
                is(1, b.count(10));
                Due.load(b, "angle " + angle + " radius 1;");
                is(0, b.count(10));
                is(-4, b.cover(0, false));
            }
        });
    }

    private void seen() {
        at("MIRRORS AND IMAGES");
        test("A cell of the picture is seen, if it is in the box", () -> {
            for (int angle : ANGLES) {
                String both = angle == 180 ? "" : "cover 1;";
                KaleidoscopeBox b = box("angle " + angle + " radius 3; cover 0;" + both);
                is(b.count(7), b.count(9));
                is(0, b.reflections(3, 0));
                is(NONE, b.reflections(1, -1));
            }
        });
        test("or if mirrors that are not covered bring it into the box, one after the other, in any order, each one as"
            + " often as needed.", () -> {
            is(6, box(180, 1).cover(0, true));
            int[][] seenByOne = {{90, 6, 6}, {45, 4, 4}, {60, 4, 4}, {30, 3, 2}};
            for (int[] row : seenByOne) {
                is(row[1], box(row[0], 1).cover(0, true));
                is(row[2], box(row[0], 1).cover(1, true));
            }
            for (int angle : ANGLES) {
                for (int radius = 1; radius <= 6; radius++) {
                    KaleidoscopeBox b = box(angle, radius);
                    is(b.count(8), b.count(9));
                }
            }
        });
        test("Its source is the cell of the box to which it comes so (there is just one)", () -> {
            KaleidoscopeBox b = box(30, 3);
            int[][] around = {{2, 1}, {1, 2}, {-1, 3}, {-2, 3}, {-3, 2}, {-3, 1}, {-2, -1}, {-1, -2}, {1, -3}, {2, -3},
                {3, -2}, {3, -1}};
            for (int[] cell : around) {
                is(2, b.source(cell[0], cell[1], false));
                is(1, b.source(cell[0], cell[1], true));
            }
            is(0, b.source(0, 0, false));
            is(0, b.source(0, 0, true));
        });
        test("its reflections are the fewest times that these mirrors are needed (0 in the box)", () -> {
            int[][] onMirrors = {{1, 0, 0}, {1, 1, 0}, {0, 1, 1}, {-1, 1, 2}, {-1, 0, 3}, {-1, -1, 3}, {0, -1, 2},
                {1, -1, 1}};
            KaleidoscopeBox b = box(45, 1);
            for (int[] row : onMirrors) {
                is(row[2], b.reflections(row[0], row[1]));
            }
            int[][] hexagons = {{1, 0, 0}, {0, 1, 1}, {-1, 1, 3}, {-1, 0, 5}, {0, -1, 4}, {1, -1, 2}};
            KaleidoscopeBox h = box(30, 1);
            for (int[] row : hexagons) {
                is(row[2], h.reflections(row[0], row[1]));
            }
            is(6, box(30, 3).reflections(-2, -1));
            is(0, box(60, 3).reflections(0, 3));
            is(0, box(90, 3).reflections(0, 3));
        });
        test("The colour of a cell is that of the chip at its source; 0 if there is none, or if the cell is not seen.", () -> {
            KaleidoscopeBox b = box("angle 90 radius 1; pin 9 1 1 1; pin 1 1 0 0;");
            is(9, b.colour(1, 1));
            is(9, b.colour(-1, -1));
            is(1, b.colour(0, 0));
            is(0, b.colour(1, 0));
            is(0, b.colour(-1, 0));
            b.cover(0, true);
            is(0, b.colour(-1, -1));
            is(9, b.colour(-1, 1));
            b.take(0);
            is(0, b.colour(1, 1));
        });
    }

    private void brightness() {
        at("MIRRORS AND IMAGES");
        test("The brightness of a cell is 1000 in the box", () -> {
            KaleidoscopeBox b = box("angle 60 radius 1; keep 1;");
            is(1000, b.brightness(0, 0));
            is(1000, b.brightness(1, 0));
            is(1000, b.brightness(0, 1));
        });
        test("each reflection makes it KEEP hundredths of what it is, rounded down", () -> {
            KaleidoscopeBox b = box("angle 30 radius 3; keep 99;");
            int[][] cells = {{1, 2}, {-1, 3}, {-2, 3}, {-3, 2}, {-3, 1}, {-2, -1}};
            int[] kept = {990, 980, 970, 960, 950, 940};
            for (int i = 0; i < cells.length; i++) {
                is(kept[i], b.brightness(cells[i][0], cells[i][1]));
            }
            b.setKeep(7);
            is(70, b.brightness(1, 2));
            is(4, b.brightness(-1, 3));
            is(0, b.brightness(-2, 3));
        });
        test("(KEEP is 1 to 100, 90 at first)", () -> {
            is(90, new KaleidoscopeBox().count(3));
            KaleidoscopeBox b = box("angle 90 radius 1; keep 1;");
            is(10, b.brightness(-1, 0));
            is(0, b.brightness(-1, -1));
            b.setKeep(100);
            is(1000, b.brightness(-1, -1));
            fails(ARGUMENT, () -> b.setKeep(0));
            fails(ARGUMENT, () -> b.setKeep(101));
            Due.load(b, "angle 90 radius 1;");
            is(900, b.brightness(-1, 0));
            is(810, b.brightness(-1, -1));
        });
        test("0 if the cell is not seen.", () -> {
            KaleidoscopeBox b = box("angle 90 radius 1; cover 1; pin 1 1 1 1;");
            is(0, b.brightness(-1, 1));
            is(0, b.brightness(-1, -1));
            is(900, b.brightness(1, -1));
        });
    }

    private void maps() {
        at("MAPS");
        test("A turn brings the cell x, y to -y, x (squares) or to -y, x + y (hexagons).", () -> {
            KaleidoscopeBox b = box(90, 3);
            is(-3, b.mapped(1, 1, 3, false));
            is(1, b.mapped(1, 1, 3, true));
            KaleidoscopeBox h = box(60, 3);
            is(-2, h.mapped(1, 1, 2, false));
            is(3, h.mapped(1, 1, 2, true));
        });
        test("There are 8 maps (squares) or 12 (hexagons)", () -> {
            for (int angle : ANGLES) {
                KaleidoscopeBox b = box(angle, 1);
                int maps = angle == 60 || angle == 30 ? 12 : 8;
                is((1 << maps) - 1, b.symmetries());
                is(0, b.mapped(maps - 1, 0, 0, true));
                fails(INDEX, () -> b.mapped(maps, 0, 0, true));
                fails(INDEX, () -> b.mapped(-1, 0, 0, true));
                fails(INDEX, () -> b.mapped(LEAST, 0, 0, true));
                fails(INDEX, () -> b.mapped(MOST, 0, 0, true));
            }
        });
        test("map k below M is k turns", () -> {
            mapped(box(180, 2), 0, new int[][] {{2, 1}, {-1, 2}, {-2, -1}, {1, -2}});
            mapped(box(30, 3), 0, new int[][] {{2, 1}, {-1, 3}, {-3, 2}, {-2, -1}, {1, -3}, {3, -2}});
        });
        test("map M + k is mirror 0 (covered or not) and then k turns.", () -> {
            int[][] squares = {{2, -1}, {1, 2}, {-2, 1}, {-1, -2}};
            int[][] hexagons = {{3, -1}, {1, 2}, {-2, 3}, {-3, 1}, {-1, -2}, {2, -3}};
            mapped(box(180, 2), 4, squares);
            mapped(box("angle 180 radius 2; cover 0;"), 4, squares);
            mapped(box(60, 3), 6, hexagons);
            mapped(box("angle 60 radius 3; cover 0; cover 1;"), 6, hexagons);
        });
        test("The picture has a map, if each of its cells has the same colour as the cell to which the map brings it.", () -> {
            // Map 5 of squares brings x, y to y, x.
            KaleidoscopeBox b = box("angle 180 radius 6; cover 0; pin 3 1 6 6; pin 1 1 0 0;");
            is(1 | 1 << 5, b.symmetries());
            b.add(3, 2, 1, 0, 6);
            is(1, b.symmetries());
            b.add(3, 9, 1, 6, 0);
            is(1, b.symmetries());
            b.paint(3, 2);
            is(1 | 1 << 5, b.symmetries());
        });
    }

    private void mapped(KaleidoscopeBox b, int first, int[][] cells) {
        for (int k = 0; k < cells.length; k++) {
            is(cells[k][0], b.mapped(first + k, 2, 1, false));
            is(cells[k][1], b.mapped(first + k, 2, 1, true));
        }
    }

    private void ownMaps() {
        at("MAPS");
        test("The own maps are those that mirrors 0 and 1 (with ANGLE 180 mirror 0 alone; covered or not) make", () -> {
            int[][] own = {{180, 0x11}, {90, 0x55}, {45, 0xFF}, {60, 0x555}, {30, 0xFFF}};
            for (int[] row : own) {
                KaleidoscopeBox b = box("angle " + row[0] + " radius 1; pin 1 1 1 0;");
                is(row[1], b.ownMaps());
                b.cover(0, true);
                is(row[1], b.ownMaps());
                if (row[0] != 180) {
                    b.cover(1, true);
                    is(row[1], b.ownMaps());
                }
            }
        });
        test("one after the other, in any order, each one as often as wanted, also none of them.", () -> {
            for (int angle : ANGLES) {
                for (int radius = 1; radius <= 6; radius++) {
                    is(1, box(angle, radius).ownMaps() & 1);
                }
            }
        });
    }

    private void regions() {
        at("MAPS");
        test("A region is a greatest set of cells of the picture that have the same colour, not 0, and are connected by"
            + " neighbours.", () -> {
            is(0, box(90, 6).regions(0));
            KaleidoscopeBox full = box("angle 45 radius 1; pin 7 1 0 0; pin 7 1 1 0; pin 7 1 1 1;");
            is(1, full.regions(0));
            is(9, full.regionSize(-1, 1));
            full.paint(0, 8);
            is(2, full.regions(0));
            is(8, full.regionSize(-1, 1));
            is(1, full.regionSize(0, 0));
            // A chain of 13 cells, from one end of the picture to the other.
            StringBuilder chain = new StringBuilder("angle 180 radius 6; cover 0;");
            for (int x = -6; x <= 6; x++) {
                chain.append("pin 2 1 ").append(x).append(' ').append(Math.abs(x % 2)).append(';');
            }
            KaleidoscopeBox b = box(chain.toString());
            is(1, b.regions(2));
            is(13, b.regionSize(6, 0));
            is(13, b.regionSize(-6, 0));
            b.take(6);
            is(2, b.regions(2));
            is(6, b.regionSize(6, 0));
        });
    }
}
