/** For each promise of the document: ordinary inputs, edges and wrong inputs, with answers told by hand. */
public final class PromiseTests {
    private static final Class<IllegalArgumentException> ARGUMENT = IllegalArgumentException.class;
    private static final Class<IllegalStateException> STATE = IllegalStateException.class;
    private static final Class<IndexOutOfBoundsException> INDEX = IndexOutOfBoundsException.class;
    private static final int NONE = KaleidoscopeBox.NONE;
    private static final int NOWHERE = KaleidoscopeBox.NOWHERE;
    private static final int LEAST = Integer.MIN_VALUE;
    private static final int MOST = Integer.MAX_VALUE;

    private static final Due DUE = new Due();

    public static void main(String[] args) {
        newObject();
        appendText();
        truncateText();
        load();
        loadErrors();
        count();
        chip();
        chipAt();
        depth();
        account();
        colour();
        brightness();
        reflections();
        source();
        images();
        cellsOf();
        commonest();
        regions();
        regionSize();
        edges();
        light();
        symmetries();
        ownMaps();
        mapped();
        matches();
        add();
        take();
        push();
        paint();
        turn();
        tick();
        tickOfBeads();
        tickOrder();
        tickOfBubbles();
        settle();
        cover();
        setKeep();
        moves();
        restsAt();
        settled();
        bestTurn();
        period();
        meanBrightness();
        filled();
        write();
        output();
        undo();
        save();
        restore();
        DUE.end("PromiseTests");
    }

    private static void newObject() {
        KaleidoscopeBox b = new KaleidoscopeBox();
        int[] counts = {60, 3, 0, 90, 0, 0, 0, 10, 37, 37, 0, 0, 0, 0, 6, 0};
        for (int what = 0; what < counts.length; what++) {
            DUE.is("P1 count " + what, counts[what], b.count(what));
        }
        DUE.is("P1 text", 0, b.truncateText(0));
        DUE.refuses("P1 text is empty", ARGUMENT, () -> b.truncateText(1));
        DUE.refuses("P1 slot 0", STATE, () -> b.matches(0));
        DUE.refuses("P1 slot 1", STATE, () -> b.matches(1));
        DUE.is("P1 cell in the box", NONE, b.chipAt(0, 0));
        DUE.is("P1 undo", NONE, b.undo());
        DUE.is("NONE", -1, NONE);
        DUE.is("NOWHERE", -100, NOWHERE);
    }

    private static void appendText() {
        KaleidoscopeBox b = new KaleidoscopeBox();
        DUE.is("P2 first", 4, b.appendText(0x20203B20));
        DUE.is("P2 second", 8, b.appendText(-1));
        DUE.is("P2 load", NONE, b.load());
        DUE.is("P2 the highest byte is the first one", 2, b.errorPosition());
        b.appendText('a' << 24 | 'n' << 16 | 'g' << 8 | 'l');
        b.appendText('e' << 24 | '4' << 16 | '5' << 8 | 'r');
        b.appendText('a' << 24 | 'd' << 16 | 'i' << 8 | 'u');
        DUE.is("P2 length", 16, b.appendText('s' << 24 | '2' << 16 | ';' << 8 | ' '));
        DUE.is("P2 text in its order", 0, b.load());
        for (int length = 4; length <= 600; length += 4) {
            DUE.is("P2 length", length, b.appendText(0x20202020));
        }
        DUE.refuses("P2 604 bytes", STATE, () -> b.appendText(0));
        DUE.is("P2 the text stays", 600, b.truncateText(600));
        b.truncateText(597);
        DUE.refuses("P2 601 bytes", STATE, () -> b.appendText(0));
        b.truncateText(596);
        DUE.is("P2 600 bytes", 600, b.appendText(0));
        DUE.is("P2 load", NONE, b.load());
        DUE.is("P2 byte 0 is no blank", 596, b.errorPosition());
        DUE.is("P2 the buffer can be used again", 4, b.appendText(0));
    }

    private static void truncateText() {
        KaleidoscopeBox b = new KaleidoscopeBox();
        Due.put(b, "angle 60 radius 3;;");
        DUE.refuses("P3 longer", ARGUMENT, () -> b.truncateText(20));
        DUE.refuses("P3 -1", ARGUMENT, () -> b.truncateText(-1));
        DUE.refuses("P3 least", ARGUMENT, () -> b.truncateText(LEAST));
        DUE.refuses("P3 most", ARGUMENT, () -> b.truncateText(MOST));
        DUE.is("P3 same", 19, b.truncateText(19));
        DUE.is("P3 shorter", 18, b.truncateText(18));
        DUE.refuses("P3 no longer so long", ARGUMENT, () -> b.truncateText(19));
        DUE.is("P3 the first bytes stay", 0, b.load());
        Due.put(b, "glass");
        DUE.is("P3 all", 0, b.truncateText(0));
        DUE.is("P3 load", NONE, b.load());
        DUE.is("P3 nothing stays", 0, b.errorPosition());
    }

    private static void load() {
        KaleidoscopeBox b = Due.of("angle 90 radius 2; down 6; keep 80; cover 1; bead 7 2 1 1; bubble 3 9 2 -0;");
        DUE.is("P4 chips", 2, b.count(5));
        int[] counts = {90, 2, 6, 80, 0, 2, 2, 9, 25, 15, 2, 0, 0, 0, 8, 0};
        for (int what = 0; what < counts.length; what++) {
            DUE.is("P4 count " + what, counts[what], b.count(what));
        }
        b.settle();
        b.save(1);
        b.tick();
        DUE.is("P4 undo ahead", 1, b.count(15));
        DUE.is("P4 wrong text", NONE, Due.load(b, "angle 30 radius 1; pin 1 1 0 0; pin 1 1 0 0;"));
        DUE.is("P4 nothing else changes", 90, b.count(0));
        DUE.is("P4 nothing else changes", 2, b.count(5));
        DUE.is("P4 nothing else changes", 1, b.count(15));
        DUE.is("P4 nothing else changes", 2, b.count(4));
        DUE.is("P4 the buffer is empty", 0, b.truncateText(0));
        DUE.refuses("P4 the buffer is empty", ARGUMENT, () -> b.truncateText(1));
        DUE.is("P4 chips", 1, Due.load(b, "angle180radius4;glass 1 1-4 0;"));
        int[] fresh = {180, 4, 0, 90, 0, 1, 1, 45, 81, 81, 0, 0, 0, 0, 8, 0};
        for (int what = 0; what < fresh.length; what++) {
            DUE.is("P4 count " + what, fresh[what], b.count(what));
        }
        DUE.refuses("P4 the buffer is empty", ARGUMENT, () -> b.truncateText(1));
        DUE.is("P4 moves of the chip", 0, b.chip(0, 5));
        DUE.is("P4 no act can be undone", NONE, b.undo());
        DUE.is("P4 accounts stay", 1, b.account(0));
        DUE.is("P4 accounts stay", 1, b.account(5));
        b.restore(1);
        DUE.is("P4 saved states stay", 90, b.count(0));
        DUE.is("P4 the last one counts", 0, Due.load(b, "angle 60 radius 6; down 3; keep 2; keep 100; down 5;"));
        DUE.is("P4 down", 5, b.count(2));
        DUE.is("P4 keep", 100, b.count(3));
    }

    private static void error(String text, int code, int position) {
        KaleidoscopeBox b = Due.of("angle 45 radius 1;");
        DUE.is("P4 load " + text, code == 0 ? 0 : NONE, Math.min(0, Due.load(b, text)));
        DUE.is("P5 error code of " + text, code, b.errorCode());
        DUE.is("P6 error position of " + text, position, b.errorPosition());
        DUE.is("P4 angle with " + text, code == 0 ? 0 : 45, code == 0 ? 0 : b.count(0));
    }

    private static void loadErrors() {
        KaleidoscopeBox b = new KaleidoscopeBox();
        DUE.is("P5 no load", 0, b.errorCode());
        DUE.is("P6 no load", NONE, b.errorPosition());
        DUE.is("P5 load", NONE, Due.load(b, "angle 60 radius 9;"));
        DUE.is("P5 wrong", 2, b.errorCode());
        DUE.is("P6 wrong", 16, b.errorPosition());
        Due.load(b, "angle 60 radius 2;");
        DUE.is("P5 right", 0, b.errorCode());
        DUE.is("P6 right", NONE, b.errorPosition());
        error("", 1, 0);
        error("  \n ", 1, 4);
        error("angle", 1, 5);
        error("angel 60 radius 3;", 1, 0);
        error("angles 60 radius 3;", 1, 0);
        error("Angle 60 radius 3;", 1, 0);
        error("angle\t60 radius 3;", 1, 5);
        error("angle 60 radius 3", 1, 17);
        error("angle 60 radius 3  ", 1, 19);
        error("\n angle\n060radius\n0000000000000000000003\n;\n ", 0, NONE);
        error("angle 61 radius 3;", 2, 6);
        error("angle -60 radius 3;", 1, 6);
        error("angle 4294967356 radius 3;", 2, 6);
        error("angle 18446744073709551676 radius 3;", 2, 6);
        error("angle 120 radius 3;", 2, 6);
        error("angle 60 ; radius 3;", 1, 9);
        error("angle 60 radius 0;", 2, 16);
        error("angle 60 radius 6;", 0, NONE);
        error("angle 60 radius 7;", 2, 16);
        error("angle 60 radius;", 1, 15);
        error("angle 60 radius 3;;", 1, 18);
        error("angle 60 radius 3; 5", 1, 19);
        error("angle 60 radius 3; -", 1, 19);
        error("angle 60 radius 3; stone 1 1 0 0;", 1, 19);
        error("angle 60 radius 3; angle 60", 1, 19);
        error("angle 60 radius 3; gla", 1, 19);
        error("angle 60 radius 3; glassz 1 1 0 0;", 1, 19);
        error("angle 60 radius 3; bin 1 1 0 0;", 1, 19);
        error("angle 60 radius 3; pit 1 1 0 0;", 1, 19);
        error("angle 60 radius 3; cower 1;", 1, 19);
        error("angle 60 radius 3; do 1;", 1, 19);
        error("angle 60 radius 3; keeps 1;", 1, 19);
        error("tangle 60 radius 3;", 1, 0);
        error("angle 60 Radius 3;", 1, 9);
        error("angle 60 diameter 3;", 1, 9);
        error("angle 60 radius 3; glass!", 1, 24);
        error("angle 60 radius 3; gl\u00e9", 1, 19);
        error("angle 60 radius 3; \u00e9", 1, 19);
        error("angle 60 radius 3; pin 0 1 0 0;", 2, 23);
        error("angle 60 radius 3; pin 9 9 0 0;", 0, NONE);
        error("angle 60 radius 3; pin 10 1 0 0;", 2, 23);
        error("angle 60 radius 3; pin 1 0 0 0;", 2, 25);
        error("angle 60 radius 3; pin 1 10 0 0;", 2, 25);
        error("angle 60 radius 3; pin -1 1 0 0;", 1, 23);
        error("angle 60 radius 3; pin 1 1 6 0;", 3, 29);
        error("angle 60 radius 3; pin 1 1 7 0;", 2, 27);
        error("angle 60 radius 3; pin 1 1 -7 0;", 2, 28);
        error("angle 60 radius 3; pin 1 1 6 7;", 2, 29);
        error("angle 60 radius 3; pin 1 1 0 -  0007;", 2, 32);
        error("angle 60 radius 3; pin 1 1 - - 1 0;", 1, 29);
        error("angle 60 radius 3; pin 1 1 2 2;", 3, 29);
        error("angle 60 radius 3; pin 1 1 3 0;", 0, NONE);
        error("angle 60 radius 3; pin 1 1 -1 1;", 3, 30);
        error("angle 60 radius 3; pin 1 1 1 -1;", 3, 30);
        error("angle 60 radius 3; pin 1 1 -0 -  0;", 0, NONE);
        error("angle 180 radius 3; pin 1 1 -3 3; pin 1 1 -3 2; bead 2 1 -3 3;", 3, 60);
        error("angle 180 radius 3; pin 1 1 -3 3 pin 1 1 -3 2;", 1, 33);
        error("angle 180 radius 3; pin 1 1 3", 1, 29);
        error("angle 180 radius 3; pin 1 1 3 -", 1, 31);
        error("angle 45 radius 3; pin 1 1 3 3;", 0, NONE);
        error("angle 45 radius 3; pin 1 1 2 3;", 3, 29);
        error("angle 30 radius 3; pin 1 1 1 1;", 0, NONE);
        error("angle 30 radius 3; pin 1 1 1 2;", 3, 29);
        error("angle 90 radius 3; pin 1 1 1 2;", 0, NONE);
        error("angle 60 radius 3; down 5;", 0, NONE);
        error("angle 60 radius 3; down 6;", 2, 24);
        error("angle 30 radius 3; down 6;", 2, 24);
        error("angle 45 radius 3; down 7;", 0, NONE);
        error("angle 45 radius 3; down 8;", 2, 24);
        error("angle 45 radius 3; down -1;", 1, 24);
        error("angle 45 radius 3; keep 0;", 2, 24);
        error("angle 45 radius 3; keep 1;", 0, NONE);
        error("angle 45 radius 3; keep 101;", 2, 24);
        error("angle 45 radius 3; cover 0; cover 1;", 0, NONE);
        error("angle 45 radius 3; cover 1; cover 1;", 3, 34);
        error("angle 45 radius 3; cover 0; cover 2;", 2, 34);
        error("angle 180 radius 3; cover 0;", 0, NONE);
        error("angle 180 radius 3; cover 1;", 2, 26);
        error("angle 180 radius 3; cover 0", 1, 27);
        manyChips();
    }

    private static String chips(int count) {
        StringBuilder text = new StringBuilder("angle 180 radius 6;");
        for (int i = 0; i < count; i++) {
            text.append("pin1 1 ").append(i % 13 - 6).append(' ').append(i / 13).append(';');
        }
        return text.toString();
    }

    private static void manyChips() {
        KaleidoscopeBox b = new KaleidoscopeBox();
        DUE.is("P4 30 chips", 30, Due.load(b, chips(30)));
        error(chips(30), 0, NONE);
        error(chips(31), 4, chips(30).length());
        error(chips(30) + "pins 1 1 0 0;", 1, chips(30).length());
        error(chips(30) + "bead!", 4, chips(30).length());
    }

    private static void count() {
        KaleidoscopeBox b = Due.of("angle 180 radius 3; down 6; cover 0; pin 1 1 0 0; bead 2 1 0 1; bubble 1 1 2 0;"
            + "glass 1 1 2 1; glass 1 1 3 0;");
        b.take(4);
        DUE.is("P7 ticks", 2, b.settle());
        int[] counts = {180, 3, 6, 90, 2, 5, 4, 28, 49, 28, 1, 4, 1, 1, 8, 2};
        for (int what = 0; what < counts.length; what++) {
            DUE.is("P7 count " + what, counts[what], b.count(what));
        }
        DUE.refuses("P7 -1", ARGUMENT, () -> b.count(-1));
        DUE.refuses("P7 16", ARGUMENT, () -> b.count(16));
        DUE.refuses("P7 least", ARGUMENT, () -> b.count(LEAST));
        // Cells of the box and of the picture with every ANGLE and RADIUS.
        for (int r = 1; r <= 6; r++) {
            int squares = (2 * r + 1) * (2 * r + 1);
            cells(180, r, (2 * r + 1) * (r + 1), squares);
            cells(90, r, (r + 1) * (r + 1), squares);
            cells(45, r, (r + 1) * (r + 2) / 2, squares);
            cells(60, r, (r + 1) * (r + 2) / 2, 3 * r * (r + 1) + 1);
            cells(30, r, (r + 2) * (r + 2) / 4, 3 * r * (r + 1) + 1);
        }
    }

    private static void cells(int angle, int radius, int box, int picture) {
        KaleidoscopeBox b = Due.of("angle " + angle + " radius " + radius + ";");
        DUE.is("P7 cells of the box " + angle + " " + radius, box, b.count(7));
        DUE.is("P7 cells of the picture " + angle + " " + radius, picture, b.count(8));
        DUE.is("P7 cells that are seen " + angle + " " + radius, picture, b.count(9));
        int half = 0;
        for (int y = -radius; y <= radius; y++) {
            for (int x = -radius; x <= radius; x++) {
                boolean isHexagon = angle == 60 || angle == 30;
                half += isHexagon && Math.abs(x + y) > radius || b.reflections(x, y) > 1 ? 0 : 1;
            }
        }
        b.cover(0, true);
        DUE.is("P7 covered", 1, b.count(10));
        if (angle != 180) {
            int seen = b.count(9);
            b.cover(0, false);
            DUE.is("P7 seen with one mirror each", half, seen + b.cover(1, true) - box);
            DUE.is("P7 covered", 2, b.count(10));
            b.cover(0, true);
            DUE.is("P7 covered", 3, b.count(10));
        }
        DUE.is("P7 seen without a mirror", box, b.count(9));
    }

    private static void chip() {
        KaleidoscopeBox b = Due.of("angle 180 radius 3; down 6; bubble 4 7 -2 1; glass 8 2 -2 3; pin 1 9 3 3;");
        int[] first = {2, 4, 7, -2, 1, 0};
        int[] third = {3, 1, 9, 3, 3, 0};
        for (int what = 0; what < 6; what++) {
            DUE.is("P8 chip 0 " + what, first[what], b.chip(0, what));
            DUE.is("P8 chip 2 " + what, third[what], b.chip(2, what));
        }
        DUE.is("P8 settle", 3, b.settle());
        DUE.is("P8 the bubble rose once of itself", 1, b.chip(0, 5));
        DUE.is("P8 and was exchanged once", 3, b.chip(0, 4));
        DUE.is("P8 the glass fell three times", 3, b.chip(1, 5));
        DUE.is("P8 the glass", 0, b.chip(1, 4));
        b.take(2);
        DUE.is("P8 x of one taken out", NOWHERE, b.chip(2, 3));
        DUE.is("P8 y of one taken out", NOWHERE, b.chip(2, 4));
        DUE.is("P8 weight of one taken out", 9, b.chip(2, 2));
        DUE.refuses("P8 chip 3", INDEX, () -> b.chip(3, 0));
        DUE.refuses("P8 chip -1", INDEX, () -> b.chip(-1, 0));
        DUE.refuses("P8 chip 30", INDEX, () -> b.chip(30, 9));
        DUE.refuses("P8 what 6", ARGUMENT, () -> b.chip(0, 6));
        DUE.refuses("P8 what -1", ARGUMENT, () -> b.chip(0, -1));
    }

    private static void chipAt() {
        KaleidoscopeBox b = Due.of("angle 45 radius 2; pin 1 1 2 2; bead 3 3 1 0;");
        DUE.is("P9 chip 0", 0, b.chipAt(2, 2));
        DUE.is("P9 chip 1", 1, b.chipAt(1, 0));
        DUE.is("P9 empty", NONE, b.chipAt(0, 0));
        DUE.refuses("P9 behind mirror 1", INDEX, () -> b.chipAt(1, 2));
        DUE.refuses("P9 behind mirror 0", INDEX, () -> b.chipAt(1, -1));
        DUE.refuses("P9 too far", INDEX, () -> b.chipAt(3, 0));
        DUE.refuses("P9 least", INDEX, () -> b.chipAt(LEAST, LEAST));
        DUE.refuses("P9 most", INDEX, () -> b.chipAt(MOST, MOST));
        b.take(1);
        DUE.is("P9 taken out", NONE, b.chipAt(1, 0));
        b.push(0, 5);
        DUE.is("P9 pushed", 0, b.chipAt(1, 1));
        DUE.is("P9 pushed", NONE, b.chipAt(2, 2));
    }

    private static void depth() {
        KaleidoscopeBox b = Due.of("angle 180 radius 3;");
        int[] squares = {2, -1, -3, -5, -2, 1, 3, 5};
        for (int down = 0; down < 8; down++) {
            DUE.is("P10 squares, down " + down, squares[down], b.depth(2, -3));
            b.turn(1);
        }
        KaleidoscopeBox h = Due.of("angle 60 radius 3;");
        int[] hexagons = {1, -4, -5, -1, 4, 5};
        for (int down = 0; down < 6; down++) {
            DUE.is("P10 hexagons, down " + down, hexagons[down], h.depth(2, -3));
            h.turn(1);
        }
        DUE.is("P10 corner", 0, b.depth(0, -3));
        DUE.refuses("P10 x", INDEX, () -> b.depth(4, 0));
        DUE.refuses("P10 y", INDEX, () -> b.depth(0, -4));
        DUE.is("P10 hexagons", 3, h.depth(3, -3));
        DUE.refuses("P10 x + y", INDEX, () -> h.depth(2, 2));
        DUE.refuses("P10 x + y", INDEX, () -> h.depth(-2, -2));
        DUE.refuses("P10 least", INDEX, () -> h.depth(LEAST, LEAST));
        DUE.refuses("P10 most", INDEX, () -> h.depth(MOST, LEAST));
    }

    private static void account() {
        KaleidoscopeBox b = Due.of("angle 90 radius 1; down 6; pin 1 1 0 0; bead 1 1 1 0;");
        b.tick();
        b.settle();
        b.push(0, 0);
        b.push(0, 4);
        b.push(0, 2);
        b.take(1);
        b.take(1);
        b.undo();
        b.undo();
        for (int i = 0; i < 29; i++) {
            b.add(3, 1, 1, 1, 1);
            b.take(b.count(5) - 1);
        }
        DUE.is("P11 acts", 2 + 28 + 28, b.account(0));
        DUE.is("P11 30 chips came", 1, b.account(1));
        DUE.is("P11 a chip in the cell", 1, b.account(2));
        DUE.is("P11 not in the box", 2, b.account(3));
        DUE.is("P11 not possible", 1, b.account(4));
        DUE.is("P11 at rest", 2, b.account(5));
        DUE.refuses("P11 wrong", INDEX, () -> b.push(0, 8));
        DUE.is("P11 exceptions are no refusals", 58, b.account(0));
        DUE.refuses("P11 6", ARGUMENT, () -> b.account(6));
        DUE.refuses("P11 -1", ARGUMENT, () -> b.account(-1));
    }

    private static void colour() {
        KaleidoscopeBox b = Due.of("angle 30 radius 3; pin 7 1 2 1;");
        int[][] images = {{2, 1}, {1, 2}, {3, -1}, {3, -2}, {-1, 3}, {-2, 3}, {-3, 2}, {-3, 1}, {-2, -1}, {-1, -2},
            {1, -3}, {2, -3}};
        for (int[] cell : images) {
            DUE.is("P12 image " + cell[0] + " " + cell[1], 7, b.colour(cell[0], cell[1]));
        }
        DUE.is("P12 no other cell", 12, b.cellsOf(7));
        DUE.is("P12 empty", 0, b.colour(0, 0));
        b.cover(0, true);
        DUE.is("P12 not seen", 0, b.colour(3, -1));
        DUE.is("P12 by mirror 1", 7, b.colour(1, 2));
        b.take(0);
        DUE.is("P12 taken out", 0, b.colour(2, 1));
        DUE.refuses("P12 x + y", INDEX, () -> b.colour(3, 1));
        DUE.refuses("P12 x", INDEX, () -> b.colour(-4, 1));
        DUE.refuses("P12 most", INDEX, () -> b.colour(MOST, 1));
    }

    private static void brightness() {
        KaleidoscopeBox b = Due.of("angle 30 radius 3; keep 33;");
        int[][] cells = {{2, 1}, {1, 2}, {-1, 3}, {-2, 3}, {-3, 2}, {-3, 1}, {-2, -1}};
        int[] due = {1000, 330, 108, 35, 11, 3, 0};
        for (int i = 0; i < due.length; i++) {
            DUE.is("P13 by " + i, due[i], b.brightness(cells[i][0], cells[i][1]));
        }
        b.setKeep(100);
        DUE.is("P13 all is kept", 1000, b.brightness(-2, -1));
        b.setKeep(1);
        DUE.is("P13 one hundredth", 10, b.brightness(1, 2));
        DUE.is("P13 nothing", 0, b.brightness(-1, 3));
        b.cover(1, true);
        DUE.is("P13 not seen", 0, b.brightness(1, 2));
        DUE.refuses("P13 outside", INDEX, () -> b.brightness(0, 4));
        DUE.refuses("P13 least", INDEX, () -> b.brightness(LEAST, LEAST));
    }

    private static void reflections() {
        KaleidoscopeBox b = Due.of("angle 30 radius 3;");
        int[][] cells = {{2, 1}, {1, 2}, {-1, 3}, {-2, 3}, {-3, 2}, {-3, 1}, {-2, -1}, {-1, -2}, {1, -3}, {2, -3},
            {3, -2}, {3, -1}};
        int[] due = {0, 1, 2, 3, 4, 5, 6, 5, 4, 3, 2, 1};
        for (int i = 0; i < due.length; i++) {
            DUE.is("P14 around " + i, due[i], b.reflections(cells[i][0], cells[i][1]));
        }
        DUE.is("P14 on a mirror", 0, b.reflections(1, 1));
        DUE.is("P14 in the middle", 0, b.reflections(0, 0));
        DUE.is("P14 on the mirror's far side", 5, b.reflections(-1, -1));
        b.cover(0, true);
        DUE.is("P14 not seen", NONE, b.reflections(3, -1));
        DUE.is("P14 seen", 1, b.reflections(1, 2));
        DUE.refuses("P14 outside", INDEX, () -> b.reflections(3, 1));
        KaleidoscopeBox s = Due.of("angle 90 radius 2;");
        DUE.is("P14 both mirrors", 2, s.reflections(-1, -2));
        DUE.is("P14 mirror 0", 1, s.reflections(1, -2));
        DUE.is("P14 mirror 1", 1, s.reflections(-1, 0));
        KaleidoscopeBox t = Due.of("angle 45 radius 2;");
        DUE.is("P14 four times", 4, t.reflections(-2, -1));
        DUE.is("P14 three times", 3, t.reflections(-2, 1));
        DUE.is("P14 three times", 3, t.reflections(-1, -2));
        DUE.is("P14 on a mirror", 3, t.reflections(-2, 0));
        KaleidoscopeBox u = Due.of("angle 180 radius 2;");
        DUE.is("P14 one mirror", 1, u.reflections(-2, -1));
    }

    private static void source() {
        KaleidoscopeBox b = Due.of("angle 60 radius 3;");
        DUE.is("P15 x of itself", 2, b.source(2, 1, false));
        DUE.is("P15 y of itself", 1, b.source(2, 1, true));
        DUE.is("P15 x by mirror 0", 1, b.source(2, -1, false));
        DUE.is("P15 y by mirror 0", 1, b.source(2, -1, true));
        DUE.is("P15 x by mirror 1", 1, b.source(-1, 3, false));
        DUE.is("P15 y by mirror 1", 2, b.source(-1, 3, true));
        DUE.is("P15 x by three", 1, b.source(-2, -1, false));
        DUE.is("P15 y by three", 2, b.source(-2, -1, true));
        b.cover(1, true);
        DUE.is("P15 x, not seen", NOWHERE, b.source(-1, 3, false));
        DUE.is("P15 y, not seen", NOWHERE, b.source(-1, 3, true));
        DUE.is("P15 seen", 1, b.source(2, -1, false));
        DUE.refuses("P15 outside", INDEX, () -> b.source(2, 2, true));
        DUE.refuses("P15 outside", INDEX, () -> b.source(MOST, 0, true));
        KaleidoscopeBox s = Due.of("angle 45 radius 3;");
        DUE.is("P15 squares x", 3, s.source(-1, -3, false));
        DUE.is("P15 squares y", 1, s.source(-1, -3, true));
    }

    private static void images() {
        KaleidoscopeBox b = Due.of("angle 60 radius 3;");
        DUE.is("P16 middle", 1, b.images(0, 0));
        DUE.is("P16 on mirror 0", 3, b.images(2, 0));
        DUE.is("P16 on mirror 1", 3, b.images(0, 3));
        DUE.is("P16 between them", 6, b.images(1, 2));
        b.cover(0, true);
        DUE.is("P16 one mirror", 2, b.images(1, 2));
        DUE.is("P16 on this mirror", 1, b.images(0, 2));
        b.cover(1, true);
        DUE.is("P16 no mirror", 1, b.images(1, 2));
        DUE.refuses("P16 not in the box", INDEX, () -> b.images(-1, 2));
        DUE.refuses("P16 too far", INDEX, () -> b.images(2, 2));
        DUE.is("P16 30", 12, Due.of("angle 30 radius 3;").images(2, 1));
        DUE.is("P16 45", 8, Due.of("angle 45 radius 3;").images(2, 1));
        DUE.is("P16 90", 4, Due.of("angle 90 radius 3;").images(2, 1));
        DUE.is("P16 180", 2, Due.of("angle 180 radius 3;").images(2, 1));
    }

    private static void cellsOf() {
        KaleidoscopeBox b = Due.of("angle 90 radius 2; glass 9 1 0 0; pin 4 1 1 0; bead 4 1 2 2; bubble 1 1 0 1;");
        DUE.is("P17 0", 16, b.cellsOf(0));
        DUE.is("P17 1", 2, b.cellsOf(1));
        DUE.is("P17 2", 0, b.cellsOf(2));
        DUE.is("P17 4", 6, b.cellsOf(4));
        DUE.is("P17 9", 1, b.cellsOf(9));
        b.cover(1, true);
        DUE.is("P17 not seen is 0", 25 - 6, b.cellsOf(0));
        DUE.is("P17 4", 3, b.cellsOf(4));
        DUE.refuses("P17 10", ARGUMENT, () -> b.cellsOf(10));
        DUE.refuses("P17 -1", ARGUMENT, () -> b.cellsOf(-1));
    }

    private static void commonest() {
        KaleidoscopeBox b = Due.of("angle 90 radius 2; glass 9 1 0 0; pin 4 1 1 0; bead 4 1 2 2; bubble 1 1 0 1;"
            + "pin 3 1 2 0;");
        int[] due = {4, 1, 3, 9, NONE, NONE, NONE, NONE, NONE};
        for (int rank = 0; rank < due.length; rank++) {
            DUE.is("P18 rank " + rank, due[rank], b.commonest(rank));
        }
        DUE.refuses("P18 9", ARGUMENT, () -> b.commonest(9));
        DUE.refuses("P18 -1", ARGUMENT, () -> b.commonest(-1));
        DUE.is("P18 empty", NONE, new KaleidoscopeBox().commonest(0));
        KaleidoscopeBox all = Due.of("angle 180 radius 4;");
        for (int colour = 9; colour >= 1; colour--) {
            all.add(3, colour, 1, colour - 5, 0);
        }
        DUE.is("P18 the lowest", 1, all.commonest(0));
        DUE.is("P18 the highest", 9, all.commonest(8));
    }

    private static void regions() {
        KaleidoscopeBox b = Due.of("angle 180 radius 3; pin 5 1 0 1; pin 5 1 1 2; pin 5 1 3 2; pin 6 1 2 1;"
            + "pin 7 1 -3 0; pin 7 1 -2 1;");
        DUE.is("P19 5", 4, b.regions(5));
        DUE.is("P19 6", 2, b.regions(6));
        DUE.is("P19 7 across the mirror", 1, b.regions(7));
        DUE.is("P19 none", 0, b.regions(1));
        DUE.is("P19 all", 7, b.regions(0));
        b.paint(3, 5);
        DUE.is("P19 joined", 2, b.regions(5));
        DUE.refuses("P19 10", ARGUMENT, () -> b.regions(10));
        DUE.refuses("P19 -1", ARGUMENT, () -> b.regions(-1));
        KaleidoscopeBox h = Due.of("angle 60 radius 3; cover 0; cover 1; pin 5 1 0 1; pin 5 1 1 2; pin 5 1 1 0;");
        DUE.is("P19 1 0 and 0 1 are neighbours, 0 1 and 1 2 are not", 2, h.regions(0));
    }

    private static void regionSize() {
        KaleidoscopeBox b = Due.of("angle 180 radius 3; pin 5 1 0 1; pin 5 1 1 2; pin 5 1 3 2; pin 6 1 2 1;"
            + "pin 7 1 -3 0; pin 7 1 -2 1;");
        DUE.is("P20 two", 2, b.regionSize(0, 1));
        DUE.is("P20 asked again", 2, b.regionSize(0, 1));
        DUE.is("P20 two", 2, b.regionSize(1, -2));
        DUE.is("P20 one", 1, b.regionSize(3, 2));
        DUE.is("P20 across the mirror", 3, b.regionSize(-2, -1));
        b.paint(4, 1);
        b.paint(5, 1);
        DUE.is("P20 colour 1", 3, b.regionSize(-2, -1));
        DUE.is("P20 no colour", 0, b.regionSize(0, 0));
        DUE.is("P20 no colour has no region", 0, b.regionSize(3, 3));
        DUE.refuses("P20 outside", INDEX, () -> b.regionSize(4, 0));
        DUE.refuses("P20 outside", INDEX, () -> b.regionSize(0, LEAST));
    }

    private static void edges() {
        KaleidoscopeBox b = Due.of("angle 180 radius 2; cover 0; pin 1 1 0 0; pin 2 1 1 0; pin 3 1 0 1; pin 1 1 1 1;");
        DUE.is("P21 squares, corners too, same colours not", 5, b.edges());
        b.cover(0, false);
        DUE.is("P21 with images", 9, b.edges());
        KaleidoscopeBox h = Due.of("angle 60 radius 2; cover 0; cover 1; pin 1 1 0 0; pin 2 1 1 0; pin 3 1 0 1;"
            + "pin 4 1 1 1;");
        DUE.is("P21 hexagons, 0 0 and 1 1 are no neighbours", 5, h.edges());
        DUE.is("P21 one chip", 0, Due.of("angle 45 radius 2; pin 1 1 1 1;").edges());
    }

    private static void light() {
        KaleidoscopeBox b = Due.of("angle 90 radius 2; keep 50; pin 1 1 0 0; pin 2 1 1 0; pin 3 1 2 1;");
        DUE.is("P22 light", 1000 + 1500 + 1000 + 500 + 500 + 250, b.light());
        b.cover(1, true);
        DUE.is("P22 mirror covered", 1000 + 1000 + 1500, b.light());
        b.paint(0, 9);
        DUE.is("P22 colours are alike", 3500, b.light());
        DUE.is("P22 empty", 0, new KaleidoscopeBox().light());
    }

    private static void symmetries() {
        KaleidoscopeBox b = Due.of("angle 90 radius 2; pin 1 1 2 1;");
        DUE.is("P23 90", 0x55, b.symmetries());
        b.add(3, 1, 1, 1, 2);
        DUE.is("P23 all", 0xFF, b.symmetries());
        b.paint(1, 2);
        DUE.is("P23 another colour", 0x55, b.symmetries());
        b.cover(0, true);
        DUE.is("P23 by mirror 1", 1 | 1 << 6, b.symmetries());
        b.cover(1, true);
        DUE.is("P23 the one that leaves all", 1, b.symmetries());
        DUE.is("P23 no chip", 0xFF, Due.of("angle 180 radius 1; cover 0;").symmetries());
        KaleidoscopeBox h = Due.of("angle 60 radius 3; pin 1 1 1 2;");
        DUE.is("P23 60", 0x555, h.symmetries());
        h.cover(0, true);
        h.cover(1, true);
        DUE.is("P23 one cell", 1, h.symmetries());
        h.push(0, 4);
        DUE.is("P23 1 1 lies on a line", 1 | 1 << 7, h.symmetries());
    }

    private static void ownMaps() {
        int[][] due = {{180, 17}, {90, 85}, {45, 255}, {60, 1365}, {30, 4095}};
        for (int[] angle : due) {
            KaleidoscopeBox b = Due.of("angle " + angle[0] + " radius 2; pin 1 1 2 0;");
            DUE.is("P24 " + angle[0], angle[1], b.ownMaps());
            b.cover(0, true);
            DUE.is("P24 covered " + angle[0], angle[1], b.ownMaps());
        }
    }

    private static void mapped() {
        KaleidoscopeBox b = Due.of("angle 45 radius 3;");
        int[][] squares = {{3, 1}, {-1, 3}, {-3, -1}, {1, -3}, {3, -1}, {1, 3}, {-3, 1}, {-1, -3}};
        for (int map = 0; map < 8; map++) {
            DUE.is("P25 squares x " + map, squares[map][0], b.mapped(map, 3, 1, false));
            DUE.is("P25 squares y " + map, squares[map][1], b.mapped(map, 3, 1, true));
        }
        DUE.refuses("P25 map 8", INDEX, () -> b.mapped(8, 0, 0, true));
        DUE.refuses("P25 map -1", INDEX, () -> b.mapped(-1, 0, 0, true));
        DUE.refuses("P25 outside", INDEX, () -> b.mapped(0, 4, 0, true));
        KaleidoscopeBox h = Due.of("angle 60 radius 3;");
        int[][] hexagons = {{2, 1}, {-1, 3}, {-3, 2}, {-2, -1}, {1, -3}, {3, -2}, {3, -1}, {1, 2}, {-2, 3}, {-3, 1},
            {-1, -2}, {2, -3}};
        for (int map = 0; map < 12; map++) {
            DUE.is("P25 hexagons x " + map, hexagons[map][0], h.mapped(map, 2, 1, false));
            DUE.is("P25 hexagons y " + map, hexagons[map][1], h.mapped(map, 2, 1, true));
        }
        DUE.refuses("P25 map 12", INDEX, () -> h.mapped(12, 0, 0, true));
        DUE.refuses("P25 outside", INDEX, () -> h.mapped(3, 3, 1, false));
        DUE.refuses("P25 most", INDEX, () -> h.mapped(MOST, MOST, MOST, false));
    }

    private static void matches() {
        KaleidoscopeBox b = Due.of("angle 180 radius 2; cover 0; pin 3 1 -2 1;");
        b.save(0);
        DUE.is("P26 the same", 0, b.matches(0));
        b.push(0, 1);
        b.push(0, 0);
        DUE.is("P26 nothing alike", NONE, b.matches(0));
        b.push(0, 0);
        DUE.is("P26 turned by three", 3, b.matches(0));
        b.push(0, 7);
        DUE.is("P26 mirrored and turned", 6, b.matches(0));
        Due.load(b, "angle 90 radius 2; cover 0; cover 1; pin 3 9 1 2;");
        DUE.is("P26 turned by three, another angle, not the other way round", 3, b.matches(0));
        b.paint(0, 4);
        DUE.is("P26 another colour", NONE, b.matches(0));
        Due.load(b, "angle 180 radius 3; cover 0; pin 3 1 -2 1;");
        DUE.is("P26 another radius", NONE, b.matches(0));
        Due.load(b, "angle 60 radius 2;");
        b.save(1);
        DUE.is("P26 hexagons", NONE, b.matches(0));
        DUE.is("P26 slot 1", 0, b.matches(1));
        Due.load(b, "angle 30 radius 2;");
        DUE.is("P26 another angle", 0, b.matches(1));
        Due.load(b, "angle 90 radius 2;");
        DUE.is("P26 empty ones", NONE, b.matches(1));
        DUE.refuses("P26 2", ARGUMENT, () -> b.matches(2));
        DUE.refuses("P26 -1", ARGUMENT, () -> b.matches(-1));
        DUE.refuses("P26 nothing saved", STATE, () -> new KaleidoscopeBox().matches(1));
        DUE.refuses("P26 2 and nothing saved", ARGUMENT, () -> new KaleidoscopeBox().matches(2));
    }

    private static void add() {
        KaleidoscopeBox b = Due.of("angle 60 radius 3;");
        DUE.is("P27 first", 0, b.add(1, 9, 8, 1, 2));
        DUE.is("P27 next", 1, b.add(0, 1, 1, 0, 0));
        int[] due = {1, 9, 8, 1, 2, 0};
        for (int what = 0; what < due.length; what++) {
            DUE.is("P27 chip " + what, due[what], b.chip(0, what));
        }
        DUE.is("P27 a chip there", -2, b.add(3, 1, 1, 1, 2));
        DUE.is("P27 nothing changes", 2, b.count(5));
        DUE.refuses("P27 outside", INDEX, () -> b.add(9, 0, 0, 2, 2));
        DUE.refuses("P27 behind a mirror", INDEX, () -> b.add(0, 1, 1, -1, 2));
        DUE.refuses("P27 kind 4", ARGUMENT, () -> b.add(4, 1, 1, 1, 2));
        DUE.refuses("P27 kind -1", ARGUMENT, () -> b.add(-1, 1, 1, 0, 1));
        DUE.refuses("P27 colour 0", ARGUMENT, () -> b.add(0, 0, 1, 0, 1));
        DUE.refuses("P27 colour 10", ARGUMENT, () -> b.add(0, 10, 1, 0, 1));
        DUE.refuses("P27 weight 0", ARGUMENT, () -> b.add(0, 1, 0, 0, 1));
        DUE.refuses("P27 weight 10", ARGUMENT, () -> b.add(0, 1, 10, 0, 1));
        DUE.is("P27 colour 9, weight 9, a pin", 2, b.add(3, 9, 9, 0, 1));
        DUE.is("P27 acts that can be undone", 3, b.count(15));
        b.take(2);
        for (int i = 3; i < 30; i++) {
            DUE.is("P27 number", i, b.add(2, 1, 1, 0, 1));
            b.take(i);
        }
        DUE.is("P27 30 chips came", -1, b.add(2, 1, 1, 0, 1));
        DUE.is("P27 30 chips came, and one there", -1, b.add(2, 1, 1, 1, 2));
        DUE.refuses("P27 ahead of reasons", ARGUMENT, () -> b.add(2, 1, 11, 1, 2));
        b.undo();
        b.undo();
        DUE.is("P27 its number is free again", 29, b.add(3, 2, 2, 0, 1));
        DUE.is("P27 with no moves", 0, b.chip(29, 5));
    }

    private static void take() {
        KaleidoscopeBox b = Due.of("angle 90 radius 2; pin 1 1 0 0; glass 2 2 0 1; bead 3 3 0 2;");
        DUE.is("P28 two stay", 2, b.take(1));
        DUE.is("P28 its cell is empty", NONE, b.chipAt(0, 1));
        DUE.is("P28 its number stays", 3, b.count(5));
        DUE.is("P28 not in the box", -3, b.take(1));
        DUE.is("P28 one stays", 1, b.take(0));
        DUE.is("P28 none stays", 0, b.take(2));
        DUE.refuses("P28 3", INDEX, () -> b.take(3));
        DUE.refuses("P28 -1", INDEX, () -> b.take(-1));
        DUE.is("P28 refused once", 1, b.account(3));
    }

    private static void push() {
        KaleidoscopeBox b = Due.of("angle 90 radius 2; down 6; pin 1 1 0 0; glass 2 2 0 1; bubble 3 3 2 1;");
        DUE.is("P29 the glass could fall then, the bubble rise", 2, b.push(0, 0));
        DUE.is("P29 pushed", 0, b.chipAt(1, 0));
        DUE.is("P29 no move", 0, b.chip(0, 5));
        DUE.is("P29 no move", 0, b.count(11));
        DUE.is("P29 a bubble there: a chip", -2, b.push(0, 1));
        DUE.is("P29 outside", -4, b.push(0, 6));
        DUE.is("P29 a corner's direction", 2, b.push(1, 1));
        b.take(2);
        DUE.is("P29 not in the box", -3, b.push(2, 0));
        DUE.is("P29 not in the box", -3, b.push(2, 7));
        DUE.refuses("P29 direction 8", INDEX, () -> b.push(2, 8));
        DUE.refuses("P29 direction -1", INDEX, () -> b.push(0, -1));
        DUE.refuses("P29 chip", INDEX, () -> b.push(3, 0));
        DUE.refuses("P29 chip -1", INDEX, () -> b.push(-1, 0));
        KaleidoscopeBox h = Due.of("angle 30 radius 2; pin 1 1 1 0;");
        DUE.refuses("P29 direction 6 with hexagons", INDEX, () -> h.push(0, 6));
        DUE.is("P29 direction 5 with hexagons", -4, h.push(0, 5));
        DUE.is("P29 direction 1 with hexagons", 0, h.push(0, 1));
        DUE.is("P29 there", 0, h.chipAt(1, 1));
    }

    private static void paint() {
        KaleidoscopeBox b = Due.of("angle 90 radius 2; pin 1 1 1 1; bead 2 1 2 0;");
        DUE.is("P30 painted", 6, b.paint(0, 2));
        DUE.is("P30 the same again", 6, b.paint(0, 2));
        DUE.is("P30 these are acts", 2, b.count(15));
        DUE.is("P30 its colour", 2, b.chip(0, 1));
        b.take(1);
        DUE.is("P30 not in the box", -3, b.paint(1, 5));
        DUE.is("P30 nothing changes", 2, b.chip(1, 1));
        DUE.refuses("P30 chip and colour", INDEX, () -> b.paint(2, 0));
        DUE.refuses("P30 colour 0", ARGUMENT, () -> b.paint(0, 0));
        DUE.refuses("P30 colour 10, ahead of the reason", ARGUMENT, () -> b.paint(1, 10));
        DUE.is("P30 9", 4, b.paint(0, 9));
        DUE.is("P30 1", 4, b.paint(0, 1));
    }

    private static void turn() {
        KaleidoscopeBox b = Due.of("angle 45 radius 2; glass 1 1 0 0;");
        DUE.is("P31 7", 7, b.turn(7));
        DUE.is("P31 around", 1, b.turn(2));
        DUE.is("P31 down", 1, b.count(2));
        DUE.is("P31 nothing falls", 0, b.chipAt(0, 0));
        DUE.is("P31 no tick", 0, b.count(4));
        DUE.refuses("P31 0", ARGUMENT, () -> b.turn(0));
        DUE.refuses("P31 8", ARGUMENT, () -> b.turn(8));
        DUE.refuses("P31 -1", ARGUMENT, () -> b.turn(-1));
        KaleidoscopeBox h = Due.of("angle 30 radius 2; down 5;");
        DUE.is("P31 7 with hexagons", 0, h.turn(7));
        DUE.is("P31 6 with hexagons", 0, h.turn(6));
        DUE.is("P31 5 with hexagons", 5, h.turn(5));
        DUE.is("P31 far around", 0, h.turn(7));
        DUE.is("P31 acts", 4, h.count(15));
    }

    private static void tick() {
        KaleidoscopeBox b = Due.of("angle 90 radius 3; down 6; glass 1 1 0 3; glass 2 1 0 2; pin 3 1 1 3; glass 4 9 1 2;"
            + "glass 5 1 2 0;");
        DUE.is("P32 the deeper one goes first, the other one follows", 3, b.tick());
        DUE.is("P32 fell", 2, b.chip(0, 4));
        DUE.is("P32 fell", 1, b.chip(1, 4));
        DUE.is("P32 a pin stays", 3, b.chip(2, 4));
        DUE.is("P32 fell", 1, b.chip(3, 4));
        DUE.is("P32 at the bottom", 0, b.chip(4, 4));
        DUE.is("P32 ticks", 1, b.count(4));
        DUE.is("P32 moves", 3, b.count(11));
        DUE.is("P32 again", 3, b.tick());
        DUE.is("P32 moves", 6, b.count(11));
        DUE.is("P32 at rest", -5, b.tick());
        DUE.is("P32 nothing changes", 2, b.count(4));
        DUE.is("P32 refusals", 1, b.account(5));
        DUE.is("P32 glass does not roll", 1, b.chip(0, 4));
        DUE.is("P32 acts", 2, b.count(15));
    }

    private static void tickOfBeads() {
        String beads = "angle 180 radius 2; down 6; pin 1 1 0 0; bead 1 1 0 1;";
        KaleidoscopeBox b = Due.of(beads);
        DUE.is("P32 a bead rolls", 1, b.tick());
        DUE.is("P32 next direction first", 1, b.chip(1, 3));
        DUE.is("P32 rolled", 0, b.chip(1, 4));
        DUE.is("P32 another direction than down", 1, b.count(13));
        KaleidoscopeBox odd = Due.of(beads + "glass 1 1 2 1;");
        odd.push(1, 2);
        odd.tick();
        DUE.is("P32 straight down is no rolling", 0, odd.count(13));
        odd.tick();
        DUE.is("P32 the other way round if TICKS is odd", -1, odd.chip(1, 3));
        for (int ticks = 0; ticks < 6; ticks++) {
            KaleidoscopeBox late = Due.of(beads + "glass 1 1 2 0; pin 1 1 0 2;");
            late.take(1);
            for (int i = 0; i < ticks; i++) {
                late.push(2, 2);
                late.tick();
            }
            late.add(1, 1, 1, 0, 1);
            late.tick();
            DUE.is("P32 where it rolls after " + ticks, ticks % 2 == 0 ? 1 : -1, late.chip(4, 3));
        }
        KaleidoscopeBox blocked = Due.of(beads + "pin 1 1 1 0;");
        blocked.tick();
        DUE.is("P32 the second one if the first one is full", -1, blocked.chip(1, 3));
        KaleidoscopeBox bubbles = Due.of(beads + "bubble 1 1 1 0; pin 1 1 1 1; pin 1 1 -1 0;");
        DUE.is("P32 no exchange but straight down", -5, bubbles.tick());
        KaleidoscopeBox h = Due.of("angle 60 radius 2; down 5; pin 1 1 2 0; bead 1 1 1 1;");
        DUE.is("P32 hexagons: directions go round", 1, h.tick());
        DUE.is("P32 hexagons: direction 0 is outside, 4 is not", 1, h.chip(1, 3));
        DUE.is("P32 hexagons", 0, h.chip(1, 4));
        KaleidoscopeBox r = Due.of("angle 60 radius 2; down 0; pin 1 1 1 1; bead 1 1 0 1;");
        r.tick();
        DUE.is("P32 hexagons: next direction", 0, r.chip(1, 3));
        DUE.is("P32 hexagons: next direction", 2, r.chip(1, 4));
        KaleidoscopeBox q = Due.of("angle 60 radius 2; down 0; pin 1 1 1 1; bead 1 1 0 1; pin 1 1 0 2;");
        q.tick();
        DUE.is("P32 hexagons: direction 5 is ahead of 0", 1, q.chip(1, 3));
        DUE.is("P32 hexagons: direction 5 is ahead of 0", 0, q.chip(1, 4));
    }

    private static void tickOrder() {
        String walls = "angle 180 radius 3; down 6; pin 1 1 -1 0; pin 1 1 1 0; pin 1 1 2 0;";
        KaleidoscopeBox left = Due.of(walls + "bead 1 4 1 1; bead 1 5 -1 1;");
        DUE.is("P32 the other one has no cell left", 1, left.tick());
        DUE.is("P32 the heavier one", 4, left.chipAt(0, 0));
        KaleidoscopeBox right = Due.of(walls + "bead 1 5 1 1; bead 1 4 -1 1;");
        right.tick();
        DUE.is("P32 the heavier one", 3, right.chipAt(0, 0));
        DUE.is("P32 the other one", 4, right.chipAt(-2, 0));
        KaleidoscopeBox lower = Due.of(walls + "bead 1 5 1 1; bead 1 5 -1 1;");
        lower.tick();
        DUE.is("P32 the lower number", 3, lower.chipAt(0, 0));
        KaleidoscopeBox depth = Due.of("angle 180 radius 3; down 6; glass 1 9 0 2; bead 1 1 1 1; pin 1 1 1 0; pin 1 1 2 0;"
            + "pin 1 1 0 0;");
        DUE.is("P32 depth comes ahead of weight: the bead has no cell yet", 1, depth.tick());
        DUE.is("P32 the glass fell", 0, depth.chipAt(0, 1));
        KaleidoscopeBox hexagon = Due.of("angle 60 radius 3; down 1; glass 1 9 0 1; glass 1 1 1 1; bead 2 2 2 0;"
            + "pin 1 1 2 1; pin 1 1 0 3;");
        DUE.is("P32 hexagons: 1 1 is deeper than 2 0 and goes first", 3, hexagon.tick());
        DUE.is("P32 hexagons", 1, hexagon.chipAt(1, 2));
        DUE.is("P32 hexagons: its cell is empty for the bead", 2, hexagon.chipAt(1, 1));
    }

    private static void tickOfBubbles() {
        KaleidoscopeBox b = Due.of("angle 90 radius 3; down 6; glass 1 1 0 1; bubble 2 5 0 0;");
        DUE.is("P32 exchanged, and then up by itself", 2, b.tick());
        DUE.is("P32 the glass", 0, b.chipAt(0, 0));
        DUE.is("P32 the bubble", 1, b.chipAt(0, 2));
        DUE.is("P32 exchanges", 1, b.count(12));
        DUE.is("P32 moves", 2, b.count(11));
        DUE.is("P32 of the bubble", 1, b.chip(1, 5));
        KaleidoscopeBox row = Due.of("angle 90 radius 3; down 6; bubble 1 1 0 0; bubble 1 9 0 1; bubble 1 5 1 3;");
        DUE.is("P32 the highest first, the next one follows", 2, row.tick());
        DUE.is("P32 two", 1, row.chip(0, 4));
        DUE.is("P32 two", 2, row.chip(1, 4));
        KaleidoscopeBox roof = Due.of("angle 90 radius 2; down 6; bubble 1 1 0 2; glass 1 1 0 1; pin 1 1 0 0;");
        DUE.is("P32 glass does not rise, bubbles do not sink", -5, roof.tick());
        KaleidoscopeBox two = Due.of("angle 90 radius 2; down 6; bead 1 1 0 2; bubble 1 1 0 1; bubble 1 1 0 0;");
        DUE.is("P32 a bead sinks through bubbles", 1, two.tick());
        DUE.is("P32 one tick, one cell", 0, two.chipAt(0, 1));
        DUE.is("P32 one tick, one cell", 1, two.tick());
        DUE.is("P32 at the bottom", 0, two.chipAt(0, 0));
        DUE.is("P32 two exchanges", 2, two.count(12));
        DUE.is("P32 no rolling", 0, two.count(13));
        KaleidoscopeBox hexagon = Due.of("angle 60 radius 3; down 1; bubble 1 1 1 1; bubble 1 1 0 2;");
        DUE.is("P32 hexagons", 2, hexagon.tick());
        DUE.is("P32 hexagons", 0, hexagon.chipAt(1, 0));
    }

    private static void settle() {
        KaleidoscopeBox b = Due.of("angle 180 radius 3; down 6; glass 1 1 0 3; pin 1 1 1 0; bead 1 1 1 2;");
        DUE.is("P33 ticks", 2, b.settle());
        DUE.is("P33 TICKS", 2, b.count(4));
        DUE.is("P33 one act", 1, b.count(15));
        DUE.is("P33 moves", 4, b.count(11));
        DUE.is("P33 the bead rolled when TICKS was odd", 2, b.chipAt(0, 0));
        DUE.is("P33 the glass lies on it", 0, b.chipAt(0, 1));
        DUE.is("P33 at rest", -5, b.settle());
        DUE.is("P33 at rest", 1, b.account(5));
        b.undo();
        DUE.is("P33 undone at once", 0, b.count(4));
        DUE.is("P33 no chip", -5, new KaleidoscopeBox().settle());
    }

    private static void cover() {
        KaleidoscopeBox b = Due.of("angle 60 radius 3;");
        DUE.is("P34 covered", 16, b.cover(0, true));
        DUE.is("P34 covered already", -4, b.cover(0, true));
        DUE.is("P34 not covered already", -4, b.cover(1, false));
        DUE.is("P34 both", 10, b.cover(1, true));
        DUE.is("P34 set", 3, b.count(10));
        DUE.is("P34 open", 16, b.cover(0, false));
        DUE.is("P34 set", 2, b.count(10));
        DUE.is("P34 acts", 3, b.count(15));
        DUE.refuses("P34 2", INDEX, () -> b.cover(2, true));
        DUE.refuses("P34 -1", INDEX, () -> b.cover(-1, false));
        KaleidoscopeBox one = Due.of("angle 180 radius 2;");
        DUE.refuses("P34 there is no mirror 1", INDEX, () -> one.cover(1, true));
        DUE.is("P34 180", 15, one.cover(0, true));
    }

    private static void setKeep() {
        KaleidoscopeBox b = new KaleidoscopeBox();
        DUE.is("P35 at first", 90, b.setKeep(1));
        DUE.is("P35 before", 1, b.setKeep(100));
        DUE.is("P35 also to what it is", 100, b.setKeep(100));
        DUE.is("P35 acts", 3, b.count(15));
        DUE.is("P35 keep", 100, b.count(3));
        DUE.refuses("P35 0", ARGUMENT, () -> b.setKeep(0));
        DUE.refuses("P35 101", ARGUMENT, () -> b.setKeep(101));
        DUE.is("P35 nothing changes", 100, b.count(3));
    }

    private static void moves() {
        KaleidoscopeBox b = Due.of("angle 90 radius 2; down 6; glass 1 1 0 1; bubble 2 5 0 0; pin 1 1 1 1; bead 2 2 2 2;");
        DUE.is("P36 moves", 3, b.moves());
        DUE.is("P36 again", 3, b.moves());
        DUE.is("P36 nothing changes", 0, b.count(4));
        DUE.is("P36 nothing changes", 1, b.chip(0, 4));
        DUE.is("P36 no act", NONE, b.undo());
        b.settle();
        DUE.is("P36 at rest", 0, b.moves());
        DUE.is("P36 no refusal", 0, b.account(5));
    }

    private static void restsAt() {
        KaleidoscopeBox b = Due.of("angle 180 radius 3; down 6; glass 1 1 0 3; pin 1 1 1 0; bead 1 1 1 2; bubble 1 1 -3 0;"
            + "pin 1 1 3 3;");
        DUE.is("P37 x of the glass", 0, b.restsAt(0, false));
        DUE.is("P37 y of the glass", 1, b.restsAt(0, true));
        DUE.is("P37 x of the bead", 0, b.restsAt(2, false));
        DUE.is("P37 y of the bead", 0, b.restsAt(2, true));
        DUE.is("P37 x of the bubble", -3, b.restsAt(3, false));
        DUE.is("P37 y of the bubble", 3, b.restsAt(3, true));
        DUE.is("P37 y of a pin", 3, b.restsAt(4, true));
        DUE.is("P37 nothing changes", 3, b.chip(0, 4));
        b.take(2);
        DUE.is("P37 without the bead", 0, b.restsAt(0, true));
        DUE.refuses("P37 not in the box", STATE, () -> b.restsAt(2, true));
        DUE.refuses("P37 5", INDEX, () -> b.restsAt(5, true));
        DUE.refuses("P37 -1", INDEX, () -> b.restsAt(-1, true));
    }

    private static void settled() {
        KaleidoscopeBox b = Due.of("angle 180 radius 3; down 6; glass 1 1 0 3; pin 2 1 1 0; bead 3 1 1 2; pin 3 1 3 3;");
        int[] down = {2, 4, 6, 5, 17, -4};
        int[] up = {1, 1, 7, 2, 17, 9};
        for (int what = 0; what < 6; what++) {
            DUE.is("P38 not turned " + what, down[what], b.settled(0, what));
            DUE.is("P38 turned by 4 " + what, up[what], b.settled(4, what));
        }
        DUE.is("P38 nothing changes", 6, b.count(2));
        DUE.is("P38 nothing changes", 0, b.count(4));
        b.turn(4);
        DUE.is("P38 as told", 1, b.settle());
        DUE.is("P38 at rest", 0, b.settled(0, 0));
        DUE.is("P38 moves before do not count", 0, b.settled(0, 1));
        DUE.is("P38 back", 3, b.settled(4, 0));
        DUE.refuses("P38 steps 8", ARGUMENT, () -> b.settled(8, 0));
        DUE.refuses("P38 steps -1", ARGUMENT, () -> b.settled(-1, 0));
        DUE.refuses("P38 what 6", ARGUMENT, () -> b.settled(0, 6));
        DUE.refuses("P38 what -1", ARGUMENT, () -> b.settled(0, -1));
        ticksCount();
        KaleidoscopeBox h = Due.of("angle 60 radius 3; glass 1 1 0 0;");
        DUE.is("P38 hexagons go round", h.settled(1, 5), h.settled(7, 5));
        DUE.is("P38 depth is twice the cells along", 6, h.settled(7, 5));
        DUE.is("P38 six steps are none", 6, h.settled(6, 5));
    }

    /** A bead that rolls to a pin of its colour if TICKS is even, away from it if TICKS is odd. */
    private static void ticksCount() {
        KaleidoscopeBox b = Due.of("angle 180 radius 2; down 6; pin 9 1 0 0; bead 1 1 0 1; pin 1 1 2 0; glass 9 1 -2 0;");
        DUE.is("P37 even", 1, b.restsAt(1, false));
        DUE.is("P38 even", 3, b.settled(0, 2));
        b.push(3, 2);
        b.tick();
        b.push(1, 2);
        b.push(1, 4);
        DUE.is("P37 odd", -1, b.restsAt(1, false));
        DUE.is("P38 odd", 4, b.settled(0, 2));
    }

    private static void bestTurn() {
        KaleidoscopeBox b = Due.of("angle 90 radius 2; down 4; pin 2 1 2 2; pin 2 1 0 2; glass 1 1 0 1; pin 2 1 1 1;");
        DUE.is("P39 1 2 has four images", 5, b.bestTurn(1));
        DUE.is("P39 nothing of it moves", 0, b.bestTurn(2));
        DUE.is("P39 none has it", 0, b.bestTurn(9));
        DUE.is("P39 nothing changes", 4, b.count(2));
        DUE.refuses("P39 0", ARGUMENT, () -> b.bestTurn(0));
        DUE.refuses("P39 10", ARGUMENT, () -> b.bestTurn(10));
        KaleidoscopeBox last = Due.of("angle 90 radius 1; down 0; glass 1 1 0 1; pin 2 1 1 0;");
        DUE.is("P39 it is best where it would lie at 1 1", 0, last.bestTurn(1));
        last.turn(1);
        DUE.is("P39 the last direction", 7, last.bestTurn(1));
    }

    private static void period() {
        KaleidoscopeBox b = Due.of("angle 90 radius 2; down 0; glass 1 1 2 0;");
        DUE.is("P40 four quarters", 4, b.period(2));
        DUE.is("P40 the other way round it never comes back", NONE, b.period(6));
        DUE.is("P40 two halves", 2, b.period(4));
        DUE.is("P40 eighths", 8, b.period(1));
        DUE.is("P40 nothing changes", 0, b.count(2));
        DUE.is("P40 not at rest", NONE, Due.of("angle 90 radius 2; down 0; glass 1 1 1 0;").period(2));
        DUE.is("P40 no chip", 8, Due.of("angle 45 radius 2;").period(3));
        KaleidoscopeBox h = Due.of("angle 60 radius 2; pin 1 1 0 0;");
        DUE.is("P40 hexagons, 6", 1, h.period(6));
        DUE.is("P40 hexagons, 7", 6, h.period(7));
        DUE.is("P40 hexagons, 4", 3, h.period(4));
        h.take(0);
        DUE.is("P40 taken out", 2, h.period(3));
        DUE.refuses("P40 0", ARGUMENT, () -> b.period(0));
        DUE.refuses("P40 8", ARGUMENT, () -> b.period(8));
        KaleidoscopeBox most = Due.of("angle 90 radius 4; down 4; pin 1 2 3 2; glass 2 1 0 3; glass 3 9 0 0;");
        DUE.is("P40 48", 48, most.period(5));
        KaleidoscopeBox more = Due.of("angle 180 radius 5; down 0; glass 1 4 5 2; glass 2 8 5 0; bead 3 6 4 0;"
            + "bubble 4 8 -5 5; glass 6 8 5 1;");
        DUE.is("P40 52 is above 48", NONE, more.period(2));
        KaleidoscopeBox swap = Due.of("angle 180 radius 1; down 4; bead 1 1 -1 0; bead 2 1 -1 1;");
        DUE.is("P40 the chips have to be the same ones", swap.period(4), periodByHand(swap, 4));
    }

    /** The period, by acts alone. */
    private static int periodByHand(KaleidoscopeBox b, int steps) {
        int[] before = {b.count(2), b.chipAt(-1, 0), b.chipAt(-1, 1)};
        for (int n = 1; n <= 48; n++) {
            b.turn(steps);
            b.settle();
            if (b.count(2) == before[0] && b.chipAt(-1, 0) == before[1] && b.chipAt(-1, 1) == before[2]) {
                return n;
            }
        }
        return NONE;
    }

    private static void meanBrightness() {
        KaleidoscopeBox b = Due.of("angle 90 radius 1; keep 50;");
        DUE.isDouble("P41 all cells", (4 * 1000 + 4 * 500 + 250) / 9.0, b.meanBrightness());
        b.cover(1, true);
        DUE.isDouble("P41 seen ones alone", 5000 / 6.0, b.meanBrightness());
        b.cover(0, true);
        DUE.isDouble("P41 the box", 1000.0, b.meanBrightness());
    }

    private static void filled() {
        KaleidoscopeBox b = Due.of("angle 60 radius 3;");
        DUE.isDouble("P42 empty", 0.0, b.filled());
        b.add(0, 1, 1, 1, 1);
        DUE.isDouble("P42 a tenth", 1.0f / 10.0f, b.filled());
        b.add(3, 1, 1, 2, 1);
        b.add(2, 1, 1, 0, 0);
        DUE.isDouble("P42 three tenths", 3.0f / 10.0f, b.filled());
        b.take(0);
        DUE.isDouble("P42 two tenths", 2.0f / 10.0f, b.filled());
    }

    private static String written(KaleidoscopeBox b) {
        int length = b.write();
        StringBuilder text = new StringBuilder();
        for (int i = 0; i < length; i++) {
            text.append((char) b.output(i));
        }
        DUE.is("P44 behind the last byte", NONE, b.output(length));
        return text.toString();
    }

    private static void write() {
        KaleidoscopeBox b = Due.of("angle 90 radius 1; pin 7 1 1 1; bead 9 2 0 1;");
        DUE.is("P43 bytes", 12, b.write());
        DUE.is("P43 squares", 1, written(b).equals("797\n000\n797\n") ? 1 : 0);
        b.cover(0, true);
        DUE.is("P43 covered", 1, written(b).equals("797\n000\n000\n") ? 1 : 0);
        KaleidoscopeBox h = Due.of("angle 60 radius 2; cover 0; cover 1; pin 1 1 2 0; pin 2 1 0 2; pin 3 1 0 0;");
        DUE.is("P43 bytes", 30, h.write());
        DUE.is("P43 hexagons", 1, written(h).equals("002  \n0000 \n00301\n 0000\n  000\n") ? 1 : 0);
        DUE.is("P43 the greatest one", 13 * 14, Due.of("angle 45 radius 6;").write());
    }

    private static void output() {
        KaleidoscopeBox b = Due.of("angle 45 radius 2;");
        DUE.is("P44 nothing was written", NONE, b.output(0));
        b.write();
        b.add(3, 5, 1, 2, 2);
        DUE.is("P44 as it was written", '0', b.output(0));
        b.write();
        DUE.is("P44 replaced", '5', b.output(0));
        DUE.is("P44 line feed", 10, b.output(5));
        DUE.is("P44 last", 10, b.output(29));
        DUE.is("P44 behind it", NONE, b.output(30));
        DUE.is("P44 -1", NONE, b.output(-1));
        DUE.is("P44 least", NONE, b.output(LEAST));
        DUE.is("P44 most", NONE, b.output(MOST));
        b.undo();
        DUE.is("P44 undo leaves it", '5', b.output(0));
        Due.load(b, "angle 45 radius 1;");
        DUE.is("P44 load leaves it", '5', b.output(0));
        b.write();
        DUE.is("P44 shorter now", NONE, b.output(12));
    }

    private static void undo() {
        KaleidoscopeBox b = Due.of("angle 90 radius 2; down 6; bead 1 1 1 2; pin 2 1 1 1; bubble 3 1 2 0; glass 5 5 2 1;");
        DUE.is("P45 nothing to undo", NONE, b.undo());
        b.save(0);
        b.tick();
        b.settle();
        b.turn(3);
        b.cover(1, true);
        b.setKeep(5);
        b.paint(0, 9);
        b.push(1, 0);
        b.take(1);
        b.add(3, 3, 3, 0, 1);
        DUE.is("P45 eight at most", 8, b.count(15));
        DUE.is("P45 add", 7, b.undo());
        DUE.is("P45 add", 4, b.count(5));
        DUE.is("P45 add", NONE, b.chipAt(0, 1));
        DUE.is("P45 take", 6, b.undo());
        DUE.is("P45 take", 4, b.count(6));
        DUE.is("P45 push", 5, b.undo());
        DUE.is("P45 push", 1, b.chip(1, 3));
        DUE.is("P45 paint", 4, b.undo());
        DUE.is("P45 paint", 1, b.chip(0, 1));
        DUE.is("P45 setKeep", 3, b.undo());
        DUE.is("P45 setKeep", 90, b.count(3));
        DUE.is("P45 cover", 2, b.undo());
        DUE.is("P45 cover", 0, b.count(10));
        DUE.is("P45 turn", 1, b.undo());
        DUE.is("P45 turn", 6, b.count(2));
        DUE.is("P45 settle", 0, b.undo());
        int[] counts = {90, 2, 6, 90, 1, 4, 4, 9, 25, 25, 0, 3, 1, 1, 8, 0};
        for (int what = 0; what < counts.length; what++) {
            DUE.is("P45 after the tick " + what, counts[what], b.count(what));
        }
        DUE.is("P45 moves of a chip", 1, b.chip(2, 5));
        DUE.is("P45 the first one is too long ago", NONE, b.undo());
        DUE.is("P45 accounts stay", 9, b.account(0));
        DUE.is("P45 acts go on", b.count(2) + 1, b.turn(1));
        DUE.is("P45 refused acts are none", -3, refusedTake(b));
        DUE.is("P45 two", 1, b.undo());
        Due.put(b, "angle 7");
        DUE.is("P45 text and error stay", 0, b.undo());
        DUE.is("P45 text stays", 7, b.truncateText(7));
        b.load();
        b.turn(1);
        b.undo();
        DUE.is("P45 error stays", 2, b.errorCode());
        DUE.is("P45 saved state stays", NONE, b.matches(0));
    }

    private static int refusedTake(KaleidoscopeBox b) {
        b.take(0);
        return b.take(0);
    }

    private static void save() {
        KaleidoscopeBox b = Due.of("angle 180 radius 2; down 6; glass 1 1 0 2; cover 0; keep 7;");
        b.settle();
        b.save(0);
        Due.load(b, "angle 60 radius 4;");
        b.save(1);
        b.restore(0);
        int[] counts = {180, 2, 6, 7, 2, 1, 1, 15, 25, 15, 1, 2, 0, 0, 8, 0};
        for (int what = 0; what < counts.length; what++) {
            DUE.is("P46 count " + what, counts[what], b.count(what));
        }
        DUE.is("P46 moves of the chip", 2, b.chip(0, 5));
        b.paint(0, 3);
        b.save(0);
        DUE.is("P46 acts can still be undone", 1, b.count(15));
        DUE.is("P46 undo", 0, b.undo());
        b.restore(0);
        DUE.is("P46 replaced", 3, b.chip(0, 1));
        b.restore(1);
        DUE.is("P46 slot 1", 4, b.count(1));
        DUE.refuses("P46 2", ARGUMENT, () -> saved(b, 2));
        DUE.refuses("P46 -1", ARGUMENT, () -> saved(b, -1));
    }

    private static long saved(KaleidoscopeBox b, int slot) {
        b.save(slot);
        return slot;
    }

    private static long restored(KaleidoscopeBox b, int slot) {
        b.restore(slot);
        return slot;
    }

    private static void restore() {
        KaleidoscopeBox b = Due.of("angle 90 radius 2; glass 1 1 0 2;");
        DUE.refuses("P47 nothing saved", STATE, () -> restored(b, 0));
        DUE.refuses("P47 2", ARGUMENT, () -> restored(b, 2));
        DUE.refuses("P47 -1", ARGUMENT, () -> restored(b, -1));
        b.save(1);
        DUE.refuses("P47 nothing saved there", STATE, () -> restored(b, 0));
        b.tick();
        b.paint(0, 2);
        b.restore(1);
        DUE.is("P47 brought back", 0, b.chip(0, 3));
        DUE.is("P47 brought back", 1, b.chip(0, 1));
        DUE.is("P47 no act can be undone", 0, b.count(15));
        DUE.is("P47 no act can be undone", NONE, b.undo());
        DUE.is("P47 accounts stay", 2, b.account(0));
        b.settle();
        b.restore(1);
        DUE.is("P47 it stays saved", 0, b.chip(0, 3));
        DUE.is("P47 and is not changed by acts", 0, b.count(4));
    }
}
