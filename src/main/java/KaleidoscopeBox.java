import java.util.Arrays;

/** A kaleidoscope: a box of chips between mirrors, and the picture that is seen in it. */
public final class KaleidoscopeBox {
    public static final int NONE = -1;
    public static final int NOWHERE = -100;

    private static final int MOST_CHIPS = 30;
    private static final int MOST_UNDONE = 8;
    // A mask, as MOST_UNDONE is a power of 2: the rows of the past go round.
    private static final int LAST_PAST = MOST_UNDONE - 1;
    private static final int MOST_TURNS = 48;
    // Each tick brings a chip nearer to where it rests, so that far fewer ones are needed.
    private static final int MOST_TICKS = 100000;
    private static final int SLOTS = 2;
    private static final int REASONS = 5;

    private static final int REACH = 6;
    // A rim that is in no picture: a step out of a picture's cell is a cell, too.
    private static final int RIM = REACH + 1;
    private static final int SIDE = 2 * RIM + 1;
    private static final int CELLS = SIDE * SIDE;

    private static final int GLASS = 0;
    private static final int BEAD = 1;
    private static final int BUBBLE = 2;
    private static final int PIN = 3;

    private static final int TOO_MANY = 1;
    private static final int FULL_CELL = 2;
    private static final int TAKEN_OUT = 3;
    private static final int NOT_POSSIBLE = 4;
    private static final int AT_REST = 5;

    private final State now = new State();
    // What would be is tried on this one, so that no call needs a state of its own.
    private final State trial = new State();
    private final State[] past = new State[MOST_UNDONE];
    private int pastEnd;
    private int pastCount;
    private final State[] slots = new State[SLOTS];
    private final boolean[] isSlotUsed = new boolean[SLOTS];
    private final int[] accounts = new int[REASONS + 1];
    private final SetupText text = new SetupText();
    private final Picture picture = new Picture();
    private final Picture savedPicture = new Picture();
    private final Fall fall = new Fall();
    private final Output written = new Output();

    public KaleidoscopeBox() {
        for (int i = 0; i < past.length; i++) {
            past[i] = new State();
        }
        for (int i = 0; i < slots.length; i++) {
            slots[i] = new State();
        }
    }

    // ---- texts

    public int appendText(int fourBytes) throws IllegalStateException {
        if (!text.hasRoom(4)) {
            throw new IllegalStateException();
        }
        text.addByte(fourBytes >>> 24);
        text.addByte(fourBytes >>> 16);
        text.addByte(fourBytes >>> 8);
        text.addByte(fourBytes);
        return text.length;
    }

    public int truncateText(int length) throws IllegalArgumentException {
        needRange(length, 0, text.length);
        text.length = length;
        return length;
    }

    public int load() {
        boolean isRight = text.read(trial);
        text.length = 0;
        if (!isRight) {
            return NONE;
        }
        now.copyFrom(trial);
        pastCount = 0;
        return now.came;
    }

    public int errorCode() {
        return text.wrongCode;
    }

    public int errorPosition() {
        return text.wrongAt;
    }

    // ---- what there is

    public int count(int what) throws IllegalArgumentException {
        needRange(what, 0, 15);
        switch (what) {
            case 0: return now.layout.angle;
            case 1: return now.layout.radius;
            case 2: return now.down;
            case 3: return now.keep;
            case 4: return now.ticks;
            case 5: return now.came;
            case 6: return now.chipsInBox();
            case 7: return now.layout.boxCells();
            case 8: return now.layout.pictureCells();
            case 9: return seenNow();
            case 10: return now.covered;
            case 11: return now.moved;
            case 12: return now.exchanged;
            case 13: return now.rolled;
            case 14: return now.layout.directions();
            default: return pastCount;
        }
    }

    public int chip(int chip, int what) throws IndexOutOfBoundsException, IllegalArgumentException {
        needChip(chip);
        needRange(what, 0, 5);
        switch (what) {
            case 0: return now.kindOf(chip);
            case 1: return now.colourOf(chip);
            case 2: return now.weightOf(chip);
            case 3: return told(now.cellOf(chip), false);
            case 4: return told(now.cellOf(chip), true);
            default: return now.ownMovesOf(chip);
        }
    }

    public int chipAt(int x, int y) throws IndexOutOfBoundsException {
        return now.chipOn(neededBoxCell(x, y));
    }

    public int depth(int x, int y) throws IndexOutOfBoundsException {
        return now.layout.depthOf(neededPictureCell(x, y), now.down);
    }

    public int account(int what) throws IllegalArgumentException {
        needRange(what, 0, REASONS);
        return accounts[what];
    }

    // ---- the picture

    public int colour(int x, int y) throws IndexOutOfBoundsException {
        int cell = neededPictureCell(x, y);
        picture.trace(now, cell);
        return now.colourOn(picture.sourceOf(cell));
    }

    public int brightness(int x, int y) throws IndexOutOfBoundsException {
        int cell = neededPictureCell(x, y);
        picture.trace(now, cell);
        return picture.brightnessOf(now, cell);
    }

    public int reflections(int x, int y) throws IndexOutOfBoundsException {
        int cell = neededPictureCell(x, y);
        picture.trace(now, cell);
        return picture.reflectionsOf(cell);
    }

    public int source(int x, int y, boolean isY) throws IndexOutOfBoundsException {
        int cell = neededPictureCell(x, y);
        picture.trace(now, cell);
        return told(picture.sourceOf(cell), isY);
    }

    public int images(int x, int y) throws IndexOutOfBoundsException {
        int cell = neededBoxCell(x, y);
        picture.look(now);
        return picture.imagesOf(cell);
    }

    public int cellsOf(int colour) throws IllegalArgumentException {
        needRange(colour, 0, 9);
        return cellsNow(colour);
    }

    public int commonest(int rank) throws IllegalArgumentException {
        needRange(rank, 0, 8);
        picture.look(now);
        return picture.commonestColour(rank);
    }

    public int regions(int colour) throws IllegalArgumentException {
        needRange(colour, 0, 9);
        picture.look(now);
        return picture.countRegions(now.layout, colour);
    }

    public int regionSize(int x, int y) throws IndexOutOfBoundsException {
        int cell = neededPictureCell(x, y);
        picture.look(now);
        return picture.sizeOfRegion(now.layout, cell);
    }

    public int edges() {
        picture.look(now);
        return picture.countEdges(now.layout);
    }

    public int light() {
        picture.look(now);
        return picture.sumOfBrightness(now, true);
    }

    // ---- maps

    public int symmetries() {
        picture.look(now);
        return mapsOf(picture, now.layout);
    }

    public int ownMaps() {
        return now.layout.mapsByMirrors();
    }

    public int mapped(int map, int x, int y, boolean isY) throws IndexOutOfBoundsException {
        if (map < 0 || map >= now.layout.maps()) {
            throw new IndexOutOfBoundsException();
        }
        return told(now.layout.mapCell(map, neededPictureCell(x, y)), isY);
    }

    public int matches(int slot) throws IllegalArgumentException, IllegalStateException {
        needSaved(slot);
        State saved = slots[slot];
        if (!saved.layout.hasSamePicture(now.layout)) {
            return NONE;
        }
        picture.look(now);
        savedPicture.look(saved);
        for (int map = 0; map < now.layout.maps(); map++) {
            if (savedPicture.isBroughtTo(picture, now.layout, map)) {
                return map;
            }
        }
        return NONE;
    }

    // ---- acts: a number as told, or minus the reason

    public int add(int kind, int colour, int weight, int x, int y)
            throws IndexOutOfBoundsException, IllegalArgumentException {
        int cell = neededBoxCell(x, y);
        needRange(kind, GLASS, PIN);
        needRange(colour, 1, 9);
        needRange(weight, 1, 9);
        if (now.came >= MOST_CHIPS) {
            return refused(TOO_MANY);
        }
        if (now.chipOn(cell) != NONE) {
            return refused(FULL_CELL);
        }
        keepForUndo();
        return now.bring(kind, colour, weight, cell);
    }

    public int take(int chip) throws IndexOutOfBoundsException {
        needChip(chip);
        if (now.cellOf(chip) == NONE) {
            return refused(TAKEN_OUT);
        }
        keepForUndo();
        now.takeOut(chip);
        return now.chipsInBox();
    }

    public int push(int chip, int direction) throws IndexOutOfBoundsException {
        needChip(chip);
        if (direction < 0 || direction >= now.layout.directions()) {
            throw new IndexOutOfBoundsException();
        }
        if (now.cellOf(chip) == NONE) {
            return refused(TAKEN_OUT);
        }
        int cell = now.layout.boxNeighbour(now.cellOf(chip), direction);
        if (cell == NONE) {
            return refused(NOT_POSSIBLE);
        }
        if (now.chipOn(cell) != NONE) {
            return refused(FULL_CELL);
        }
        keepForUndo();
        now.shift(chip, cell);
        return movesOfNextTick();
    }

    public int paint(int chip, int colour) throws IndexOutOfBoundsException, IllegalArgumentException {
        needChip(chip);
        needRange(colour, 1, 9);
        if (now.cellOf(chip) == NONE) {
            return refused(TAKEN_OUT);
        }
        keepForUndo();
        now.recolour(chip, colour);
        return cellsNow(colour);
    }

    public int turn(int steps) throws IllegalArgumentException {
        needRange(steps, 1, 7);
        keepForUndo();
        now.turnBy(steps);
        return now.down;
    }

    public int tick() {
        int made = movesOfNextTick();
        if (made == 0) {
            return refused(AT_REST);
        }
        keepForUndo();
        now.copyFrom(trial);
        return made;
    }

    public int settle() {
        trial.copyFrom(now);
        int made = settleTrial();
        if (made == 0) {
            return refused(AT_REST);
        }
        keepForUndo();
        now.copyFrom(trial);
        return made;
    }

    public int cover(int mirror, boolean isCovered) throws IndexOutOfBoundsException {
        if (mirror < 0 || mirror >= now.layout.mirrors()) {
            throw new IndexOutOfBoundsException();
        }
        if (now.isCovered(mirror) == isCovered) {
            return refused(NOT_POSSIBLE);
        }
        keepForUndo();
        now.setCovered(mirror, isCovered);
        return seenNow();
    }

    public int setKeep(int keep) throws IllegalArgumentException {
        needRange(keep, 1, 100);
        keepForUndo();
        int before = now.keep;
        now.keep = keep;
        return before;
    }

    // ---- what would be (nothing changes)

    public int moves() {
        return movesOfNextTick();
    }

    public int restsAt(int chip, boolean isY) throws IndexOutOfBoundsException, IllegalStateException {
        needChip(chip);
        if (now.cellOf(chip) == NONE) {
            throw new IllegalStateException();
        }
        trial.copyFrom(now);
        settleTrial();
        return told(trial.cellOf(chip), isY);
    }

    public int settled(int steps, int what) throws IllegalArgumentException {
        needRange(steps, 0, 7);
        needRange(what, 0, 5);
        trial.copyFrom(now);
        trial.turnBy(steps);
        int ticks = settleTrial();
        picture.look(trial);
        switch (what) {
            case 0: return ticks;
            case 1: return trial.moved - now.moved;
            case 2: return picture.countRegions(trial.layout, 0);
            case 3: return picture.countEdges(trial.layout);
            case 4: return mapsOf(picture, trial.layout);
            default: return trial.sumOfDepths();
        }
    }

    public int bestTurn(int colour) throws IllegalArgumentException {
        needRange(colour, 1, 9);
        int best = 0;
        int mostCells = NONE;
        for (int steps = 0; steps < now.layout.directions(); steps++) {
            trial.copyFrom(now);
            trial.turnBy(steps);
            settleTrial();
            picture.look(trial);
            int cells = picture.countColour(colour);
            if (cells > mostCells) {
                mostCells = cells;
                best = steps;
            }
        }
        return best;
    }

    public int period(int steps) throws IllegalArgumentException {
        needRange(steps, 1, 7);
        trial.copyFrom(now);
        for (int turns = 1; turns <= MOST_TURNS; turns++) {
            trial.turnBy(steps);
            settleTrial();
            if (trial.liesAs(now)) {
                return turns;
            }
        }
        return NONE;
    }

    public double meanBrightness() {
        picture.look(now);
        int seen = picture.countSeen();
        if (seen == 0) {
            return 0.0;
        }
        return (double) picture.sumOfBrightness(now, false) / (double) seen;
    }

    public float filled() {
        int cells = now.layout.boxCells();
        if (cells == 0) {
            return 0.0f;
        }
        return (float) now.chipsInBox() / (float) cells;
    }

    // ---- output

    public int write() {
        picture.look(now);
        written.show(picture, now.layout);
        return written.length;
    }

    public int output(int index) {
        return written.byteAt(index);
    }

    // ---- undo, saved states

    public int undo() {
        if (pastCount == 0) {
            return NONE;
        }
        pastEnd = pastEnd - 1 & LAST_PAST;
        pastCount--;
        now.copyFrom(past[pastEnd]);
        return pastCount;
    }

    public void save(int slot) throws IllegalArgumentException {
        needRange(slot, 0, SLOTS - 1);
        slots[slot].copyFrom(now);
        isSlotUsed[slot] = true;
    }

    public void restore(int slot) throws IllegalArgumentException, IllegalStateException {
        needSaved(slot);
        now.copyFrom(slots[slot]);
        pastCount = 0;
    }

    private static void needRange(int value, int least, int most) {
        if (value < least || value > most) {
            throw new IllegalArgumentException();
        }
    }

    private void needChip(int chip) {
        if (chip < 0 || chip >= now.came) {
            throw new IndexOutOfBoundsException();
        }
    }

    private void needSaved(int slot) {
        needRange(slot, 0, SLOTS - 1);
        if (!isSlotUsed[slot]) {
            throw new IllegalStateException();
        }
    }

    private int neededPictureCell(int x, int y) {
        int cell = now.layout.pictureCell(x, y);
        if (cell == NONE) {
            throw new IndexOutOfBoundsException();
        }
        return cell;
    }

    private int neededBoxCell(int x, int y) {
        int cell = now.layout.boxCell(x, y);
        if (cell == NONE) {
            throw new IndexOutOfBoundsException();
        }
        return cell;
    }

    private static int told(int cell, boolean isY) {
        if (cell == NONE) {
            return NOWHERE;
        }
        return isY ? Layout.yOf(cell) : Layout.xOf(cell);
    }

    private int refused(int reason) {
        if (reason >= 1 && reason <= REASONS) {
            accounts[reason]++;
        }
        return -reason;
    }

    private void keepForUndo() {
        accounts[0]++;
        past[pastEnd & LAST_PAST].copyFrom(now);
        pastEnd = pastEnd + 1 & LAST_PAST;
        pastCount = Math.min(pastCount + 1, MOST_UNDONE);
    }

    private int seenNow() {
        picture.look(now);
        return picture.countSeen();
    }

    private int cellsNow(int colour) {
        picture.look(now);
        return picture.countColour(colour);
    }

    private static int mapsOf(Picture seen, Layout layout) {
        int set = 0;
        for (int map = 0; map < layout.maps(); map++) {
            if (seen.isBroughtTo(seen, layout, map)) {
                set |= 1 << map;
            }
        }
        return set;
    }

    private int movesOfNextTick() {
        trial.copyFrom(now);
        return fall.makeTick(trial);
    }

    private int settleTrial() {
        int made = 0;
        while (made < MOST_TICKS && fall.makeTick(trial) > 0) {
            made++;
        }
        return made;
    }

    /** The cells of one ANGLE and RADIUS; each cell is one number, the same one in every layout. */
    private static final class Layout {
        private static final int[] SQUARE_X = {1, 1, 0, -1, -1, -1, 0, 1};
        private static final int[] SQUARE_Y = {0, 1, 1, 1, 0, -1, -1, -1};
        private static final int[] HEXAGON_X = {1, 0, -1, -1, 0, 1};
        private static final int[] HEXAGON_Y = {0, 1, 1, 0, -1, -1};

        private static final int OUTSIDE = 0;
        private static final int PICTURE = 1;
        private static final int BOX = 2;

        int angle;
        int radius;
        private boolean isHexagonal;
        private final int[] zones = new int[CELLS];

        Layout() {
            become(60, 3);
        }

        void become(int newAngle, int newRadius) {
            angle = newAngle;
            radius = newRadius;
            isHexagonal = angle == 60 || angle == 30;
            for (int cell = 0; cell < CELLS; cell++) {
                zones[cell] = zoneAt(xOf(cell), yOf(cell));
            }
        }

        void copyFrom(Layout other) {
            angle = other.angle;
            radius = other.radius;
            isHexagonal = other.isHexagonal;
            System.arraycopy(other.zones, 0, zones, 0, CELLS);
        }

        static boolean isAngle(int number) {
            return number == 180 || number == 90 || number == 45 || number == 60 || number == 30;
        }

        private int zoneAt(int x, int y) {
            int distance = Math.max(Math.abs(x), Math.abs(y));
            if (isHexagonal) {
                distance = Math.max(distance, Math.abs(x + y));
            }
            if (distance > radius) {
                return OUTSIDE;
            }
            return isBetweenMirrors(x, y) ? BOX : PICTURE;
        }

        private boolean isBetweenMirrors(int x, int y) {
            switch (angle) {
                case 180: return y >= 0;
                case 90:
                case 60: return x >= 0 && y >= 0;
                default: return y >= 0 && x >= y;
            }
        }

        static boolean isCell(int cell) {
            return cell >= 0 && cell < CELLS;
        }

        static int xOf(int cell) {
            return cell % SIDE - RIM;
        }

        static int yOf(int cell) {
            return cell / SIDE - RIM;
        }

        private static int cellAt(int x, int y) {
            return (y + RIM) * SIDE + x + RIM;
        }

        boolean hasSamePicture(Layout other) {
            return radius == other.radius && isHexagonal == other.isHexagonal;
        }

        int directions() {
            return isHexagonal ? 6 : 8;
        }

        int wrapped(int direction) {
            return isHexagonal ? direction % 6 : direction % 8;
        }

        int mirrors() {
            return angle == 180 ? 1 : 2;
        }

        int maps() {
            return isHexagonal ? 12 : 8;
        }

        boolean isInPicture(int cell) {
            return cell >= 0 && cell < CELLS && zones[cell] != OUTSIDE;
        }

        boolean isInBox(int cell) {
            return cell >= 0 && cell < CELLS && zones[cell] == BOX;
        }

        private boolean isFar(int number) {
            return number < -REACH || number > REACH;
        }

        int pictureCell(int x, int y) {
            if (isFar(x) || isFar(y)) {
                return NONE;
            }
            int cell = cellAt(x, y);
            return isInPicture(cell) ? cell : NONE;
        }

        int boxCell(int x, int y) {
            int cell = pictureCell(x, y);
            return isInBox(cell) ? cell : NONE;
        }

        int pictureCells() {
            int cells = 0;
            for (int cell = 0; cell < CELLS; cell++) {
                if (isInPicture(cell)) {
                    cells++;
                }
            }
            return cells;
        }

        int boxCells() {
            int cells = 0;
            for (int cell = 0; cell < CELLS; cell++) {
                if (isInBox(cell)) {
                    cells++;
                }
            }
            return cells;
        }

        private int stepX(int direction) {
            int[] steps = isHexagonal ? HEXAGON_X : SQUARE_X;
            return direction >= 0 && direction < steps.length ? steps[direction] : 0;
        }

        private int stepY(int direction) {
            int[] steps = isHexagonal ? HEXAGON_Y : SQUARE_Y;
            return direction >= 0 && direction < steps.length ? steps[direction] : 0;
        }

        private int neighbour(int cell, int direction) {
            return cell + stepY(direction) * SIDE + stepX(direction);
        }

        int pictureNeighbour(int cell, int direction) {
            int next = neighbour(cell, direction);
            return isInPicture(next) ? next : NONE;
        }

        int boxNeighbour(int cell, int direction) {
            int next = neighbour(cell, direction);
            return isInBox(next) ? next : NONE;
        }

        int depthOf(int cell, int down) {
            int x = xOf(cell);
            int y = yOf(cell);
            int along = x * stepX(down) + y * stepY(down);
            return isHexagonal ? 2 * along + x * stepY(down) + y * stepX(down) : along;
        }

        int mirrorCell(int mirror, int cell) {
            int x = xOf(cell);
            int y = yOf(cell);
            if (mirror == 0) {
                return cellAt(isHexagonal ? x + y : x, -y);
            }
            switch (angle) {
                case 90: return cellAt(-x, y);
                case 60: return cellAt(-x, x + y);
                default: return cellAt(y, x);
            }
        }

        private int turnCell(int cell) {
            int x = xOf(cell);
            int y = yOf(cell);
            return cellAt(-y, isHexagonal ? x + y : x);
        }

        int mapCell(int map, int cell) {
            int half = maps() / 2;
            int turns = map < half ? map : map - half;
            int at = map < half ? cell : mirrorCell(0, cell);
            for (int turn = 0; turn < turns; turn++) {
                at = turnCell(at);
            }
            return at;
        }

        int mapsByMirrors() {
            switch (angle) {
                // Mirror 0 alone: to stay, and map M.
                case 180: return 1 | 1 << 4;
                // Two mirrors make the turns by twice their angle: every other map of each half.
                case 90: return 0x55;
                case 60: return 0x555;
                // Where twice their angle is one turn they make all maps.
                case 45: return 0xFF;
                default: return 0xFFF;
            }
        }
    }

    /** All that acts can change. */
    private static final class State {
        final Layout layout = new Layout();
        int down;
        int keep = 90;
        int ticks;
        int covered;
        int moved;
        int exchanged;
        int rolled;
        int came;
        private final int[] kinds = new int[MOST_CHIPS];
        private final int[] colours = new int[MOST_CHIPS];
        private final int[] weights = new int[MOST_CHIPS];
        private final int[] cells = new int[MOST_CHIPS];
        private final int[] ownMoves = new int[MOST_CHIPS];
        private final int[] chips = new int[CELLS];

        State() {
            Arrays.fill(chips, NONE);
        }

        void begin(int angle, int radius) {
            layout.become(angle, radius);
            down = 0;
            keep = 90;
            ticks = 0;
            covered = 0;
            moved = 0;
            exchanged = 0;
            rolled = 0;
            came = 0;
            Arrays.fill(chips, NONE);
        }

        void copyFrom(State other) {
            layout.copyFrom(other.layout);
            down = other.down;
            keep = other.keep;
            ticks = other.ticks;
            covered = other.covered;
            moved = other.moved;
            exchanged = other.exchanged;
            rolled = other.rolled;
            came = other.came;
            System.arraycopy(other.kinds, 0, kinds, 0, MOST_CHIPS);
            System.arraycopy(other.colours, 0, colours, 0, MOST_CHIPS);
            System.arraycopy(other.weights, 0, weights, 0, MOST_CHIPS);
            System.arraycopy(other.cells, 0, cells, 0, MOST_CHIPS);
            System.arraycopy(other.ownMoves, 0, ownMoves, 0, MOST_CHIPS);
            System.arraycopy(other.chips, 0, chips, 0, CELLS);
        }

        private boolean isChip(int chip) {
            return chip >= 0 && chip < came && chip < MOST_CHIPS;
        }

        int kindOf(int chip) {
            return isChip(chip) ? kinds[chip] : NONE;
        }

        int colourOf(int chip) {
            return isChip(chip) ? colours[chip] : 0;
        }

        int weightOf(int chip) {
            return isChip(chip) ? weights[chip] : 0;
        }

        int cellOf(int chip) {
            return isChip(chip) ? cells[chip] : NONE;
        }

        int ownMovesOf(int chip) {
            return isChip(chip) ? ownMoves[chip] : 0;
        }

        int chipOn(int cell) {
            return Layout.isCell(cell) ? chips[cell] : NONE;
        }

        int colourOn(int cell) {
            return colourOf(chipOn(cell));
        }

        int chipsInBox() {
            int count = 0;
            for (int chip = 0; chip < came; chip++) {
                if (cellOf(chip) != NONE) {
                    count++;
                }
            }
            return count;
        }

        int bring(int kind, int colour, int weight, int cell) {
            if (came < 0 || came >= MOST_CHIPS) {
                return NONE;
            }
            int chip = came;
            came++;
            kinds[chip] = kind;
            colours[chip] = colour;
            weights[chip] = weight;
            ownMoves[chip] = 0;
            put(chip, cell);
            return chip;
        }

        private void put(int chip, int cell) {
            if (isChip(chip) && Layout.isCell(cell)) {
                cells[chip] = cell;
                chips[cell] = chip;
            }
        }

        void takeOut(int chip) {
            int cell = cellOf(chip);
            if (Layout.isCell(cell)) {
                chips[cell] = NONE;
                cells[chip] = NONE;
            }
        }

        void shift(int chip, int cell) {
            if (isChip(chip) && Layout.isCell(cells[chip]) && Layout.isCell(cell)) {
                chips[cells[chip]] = NONE;
                chips[cell] = chip;
                cells[chip] = cell;
            }
        }

        void exchange(int chip, int other) {
            int cell = cellOf(chip);
            int otherCell = cellOf(other);
            put(chip, otherCell);
            put(other, cell);
        }

        void countMove(int chip) {
            if (isChip(chip)) {
                ownMoves[chip]++;
                moved++;
            }
        }

        void recolour(int chip, int colour) {
            if (isChip(chip)) {
                colours[chip] = colour;
            }
        }

        void turnBy(int steps) {
            down = layout.wrapped(down + steps);
        }

        int sumOfDepths() {
            int sum = 0;
            for (int chip = 0; chip < came; chip++) {
                int cell = cellOf(chip);
                if (cell != NONE) {
                    sum += layout.depthOf(cell, down);
                }
            }
            return sum;
        }

        boolean isCovered(int mirror) {
            return (covered & 1 << mirror) != 0;
        }

        void setCovered(int mirror, boolean isCovered) {
            covered = isCovered ? covered | 1 << mirror : covered & ~(1 << mirror);
        }

        boolean canReflect(int mirror) {
            return mirror < layout.mirrors() && !isCovered(mirror);
        }

        boolean liesAs(State other) {
            if (down != other.down || came != other.came) {
                return false;
            }
            for (int chip = 0; chip < came; chip++) {
                if (cellOf(chip) != other.cellOf(chip)) {
                    return false;
                }
            }
            return true;
        }
    }

    /** Makes ticks. */
    private static final class Fall {
        private static final int DEEPEST = 2 * REACH;
        private static final int WEIGHTS = 10;
        private static final int NUMBERS = 32;

        // Ranks, the first to try ahead; the number of its chip is the last part of a rank.
        private final int[] line = new int[MOST_CHIPS];
        private int lined;

        /** A tick without a move is none: it leaves TICKS, too. */
        int makeTick(State box) {
            int movedBefore = box.moved;
            lineUp(box, false);
            for (int i = 0; i < lined && i < MOST_CHIPS; i++) {
                tryToFall(box, line[i] % NUMBERS);
            }
            lineUp(box, true);
            for (int i = 0; i < lined && i < MOST_CHIPS; i++) {
                tryToRise(box, line[i] % NUMBERS);
            }
            int made = box.moved - movedBefore;
            if (made > 0) {
                box.ticks++;
            }
            return made;
        }

        private void lineUp(State box, boolean areBubbles) {
            lined = 0;
            for (int chip = 0; chip < box.came; chip++) {
                int kind = box.kindOf(chip);
                boolean belongs = areBubbles ? kind == BUBBLE : kind == GLASS || kind == BEAD;
                if (belongs && box.cellOf(chip) != NONE) {
                    insert(rankOf(box, chip, areBubbles));
                }
            }
        }

        private static int rankOf(State box, int chip, boolean isBubble) {
            int depth = box.layout.depthOf(box.cellOf(chip), box.down);
            int weight = box.weightOf(chip);
            int height = isBubble ? DEEPEST + depth : DEEPEST - depth;
            int lightness = isBubble ? weight : WEIGHTS - weight;
            return (height * (WEIGHTS + 1) + lightness) * NUMBERS + chip;
        }

        private void insert(int rank) {
            if (lined < 0 || lined >= MOST_CHIPS) {
                return;
            }
            int at = lined;
            lined++;
            while (at > 0 && line[at - 1] > rank) {
                line[at] = line[at - 1];
                at--;
            }
            line[at] = rank;
        }

        private static void tryToFall(State box, int chip) {
            if (drop(box, chip) || box.kindOf(chip) != BEAD) {
                return;
            }
            boolean isOdd = box.ticks % 2 != 0;
            int next = box.layout.wrapped(box.down + 1);
            int previous = box.layout.wrapped(box.down + box.layout.directions() - 1);
            if (roll(box, chip, isOdd ? previous : next) || roll(box, chip, isOdd ? next : previous)) {
                box.rolled++;
            }
        }

        private static boolean drop(State box, int chip) {
            int cell = box.layout.boxNeighbour(box.cellOf(chip), box.down);
            int other = box.chipOn(cell);
            if (box.kindOf(other) != BUBBLE) {
                return enter(box, chip, cell);
            }
            box.exchange(chip, other);
            box.exchanged++;
            box.countMove(chip);
            return true;
        }

        private static boolean roll(State box, int chip, int direction) {
            return enter(box, chip, box.layout.boxNeighbour(box.cellOf(chip), direction));
        }

        private static boolean enter(State box, int chip, int cell) {
            if (cell == NONE || box.chipOn(cell) != NONE) {
                return false;
            }
            box.shift(chip, cell);
            box.countMove(chip);
            return true;
        }

        private static void tryToRise(State box, int chip) {
            int up = box.layout.wrapped(box.down + box.layout.directions() / 2);
            roll(box, chip, up);
        }
    }

    /** What is seen of a state: it holds for the state that was looked at last. */
    private static final class Picture {
        private static final int MOST_REFLECTIONS = 6;
        private static final int COLOURS = 10;

        private final int[] sources = new int[CELLS];
        private final int[] reflected = new int[CELLS];
        private final int[] colours = new int[CELLS];
        private final int[] cellsOfColour = new int[COLOURS];
        private final boolean[] isReached = new boolean[CELLS];
        private final int[] reached = new int[CELLS];

        void look(State box) {
            Arrays.fill(cellsOfColour, 0);
            for (int cell = 0; cell < CELLS; cell++) {
                sources[cell] = NONE;
                reflected[cell] = NONE;
                colours[cell] = NONE;
                if (box.layout.isInPicture(cell)) {
                    trace(box, cell);
                    colours[cell] = box.colourOn(sources[cell]);
                    countCell(colours[cell]);
                }
            }
        }

        private void countCell(int colour) {
            if (colour >= 0 && colour < COLOURS) {
                cellsOfColour[colour]++;
            }
        }

        void trace(State box, int cell) {
            if (!Layout.isCell(cell)) {
                return;
            }
            sources[cell] = NONE;
            reflected[cell] = NONE;
            if (box.layout.isInBox(cell)) {
                sources[cell] = cell;
                reflected[cell] = 0;
                return;
            }
            // The same mirror twice brings a cell back: only mirrors by turns lead on.
            follow(box, cell, 0);
            follow(box, cell, 1);
        }

        private void follow(State box, int cell, int firstMirror) {
            int at = cell;
            int mirror = firstMirror;
            for (int used = 1; used <= MOST_REFLECTIONS && box.canReflect(mirror); used++) {
                at = box.layout.mirrorCell(mirror, at);
                if (box.layout.isInBox(at)) {
                    find(cell, at, used);
                    return;
                }
                mirror = 1 - mirror;
            }
        }

        private void find(int cell, int source, int used) {
            if (Layout.isCell(cell) && (reflected[cell] == NONE || used < reflected[cell])) {
                sources[cell] = source;
                reflected[cell] = used;
            }
        }

        int sourceOf(int cell) {
            return Layout.isCell(cell) ? sources[cell] : NONE;
        }

        int reflectionsOf(int cell) {
            return Layout.isCell(cell) ? reflected[cell] : NONE;
        }

        int colourOf(int cell) {
            return Layout.isCell(cell) ? colours[cell] : NONE;
        }

        int brightnessOf(State box, int cell) {
            int times = reflectionsOf(cell);
            if (times == NONE) {
                return 0;
            }
            int brightness = 1000;
            for (int i = 0; i < times; i++) {
                brightness = brightness * box.keep / 100;
            }
            return brightness;
        }

        int sumOfBrightness(State box, boolean isColoured) {
            int sum = 0;
            for (int cell = 0; cell < CELLS; cell++) {
                if (!isColoured || colours[cell] > 0) {
                    sum += brightnessOf(box, cell);
                }
            }
            return sum;
        }

        int countSeen() {
            int seen = 0;
            for (int cell = 0; cell < CELLS; cell++) {
                if (sources[cell] != NONE) {
                    seen++;
                }
            }
            return seen;
        }

        int imagesOf(int source) {
            int images = 0;
            for (int cell = 0; cell < CELLS; cell++) {
                if (sources[cell] == source) {
                    images++;
                }
            }
            return images;
        }

        int countColour(int colour) {
            return colour >= 0 && colour < COLOURS ? cellsOfColour[colour] : 0;
        }

        int commonestColour(int rank) {
            for (int colour = 1; colour < COLOURS; colour++) {
                if (cellsOfColour[colour] > 0 && colourRank(colour) == rank) {
                    return colour;
                }
            }
            return NONE;
        }

        private int colourRank(int colour) {
            int ahead = 0;
            for (int other = 1; other < COLOURS; other++) {
                int more = countColour(other) - countColour(colour);
                if (more > 0 || more == 0 && other < colour) {
                    ahead++;
                }
            }
            return ahead;
        }

        /** The regions of a colour; of all of them for 0. */
        int countRegions(Layout layout, int colour) {
            forgetReached();
            int regions = 0;
            for (int cell = 0; cell < CELLS; cell++) {
                boolean belongs = colour == 0 ? colours[cell] > 0 : colours[cell] == colour;
                if (belongs && !isReached[cell]) {
                    spread(layout, cell);
                    regions++;
                }
            }
            return regions;
        }

        int sizeOfRegion(Layout layout, int cell) {
            if (colourOf(cell) <= 0) {
                return 0;
            }
            forgetReached();
            return spread(layout, cell);
        }

        private void forgetReached() {
            for (int cell = 0; cell < CELLS; cell++) {
                isReached[cell] = false;
            }
        }

        private int spread(Layout layout, int start) {
            int colour = colourOf(start);
            int found = reach(start, 0);
            for (int next = 0; next < found && next < CELLS; next++) {
                for (int direction = 0; direction < layout.directions(); direction++) {
                    int cell = layout.pictureNeighbour(reached[next], direction);
                    if (colourOf(cell) == colour) {
                        found = reach(cell, found);
                    }
                }
            }
            return found;
        }

        private int reach(int cell, int found) {
            if (!Layout.isCell(cell) || isReached[cell] || found < 0 || found >= CELLS) {
                return found;
            }
            isReached[cell] = true;
            reached[found] = cell;
            return found + 1;
        }

        int countEdges(Layout layout) {
            int edges = 0;
            // The other half of the directions leads to the same pairs.
            int half = layout.directions() / 2;
            for (int cell = 0; cell < CELLS; cell++) {
                for (int direction = 0; direction < half && colours[cell] > 0; direction++) {
                    int other = colourOf(layout.pictureNeighbour(cell, direction));
                    if (other > 0 && other != colours[cell]) {
                        edges++;
                    }
                }
            }
            return edges;
        }

        boolean isBroughtTo(Picture other, Layout layout, int map) {
            for (int cell = 0; cell < CELLS; cell++) {
                if (colours[cell] != NONE && colours[cell] != other.colourOf(layout.mapCell(map, cell))) {
                    return false;
                }
            }
            return true;
        }
    }

    /** A picture as text. */
    private static final class Output {
        private final int[] bytes = new int[CELLS];
        int length;

        void show(Picture picture, Layout layout) {
            length = 0;
            for (int y = layout.radius; y >= -layout.radius; y--) {
                for (int x = -layout.radius; x <= layout.radius; x++) {
                    int cell = layout.pictureCell(x, y);
                    addByte(cell == NONE ? ' ' : '0' + picture.colourOf(cell));
                }
                addByte('\n');
            }
        }

        private void addByte(int value) {
            if (length >= 0 && length < bytes.length) {
                bytes[length] = value;
                length++;
            }
        }

        int byteAt(int index) {
            return index >= 0 && index < length && index < bytes.length ? bytes[index] : NONE;
        }
    }

    /** The text buffer, and the reader of setups. */
    private static final class SetupText {
        private static final int MOST_BYTES = 600;
        // All numbers from here on are too great anywhere, so that none needs to be known.
        private static final int TOO_GREAT = 1000;

        private static final int END = 0;
        private static final int WORD = 1;
        private static final int NUMBER = 2;
        private static final int MINUS = 3;
        private static final int SEMICOLON = 4;
        private static final int STRAY = 5;

        private static final int WRONG_TOKEN = 1;
        private static final int WRONG_RANGE = 2;
        private static final int WRONG_PLACE = 3;
        private static final int WRONG_MANY = 4;

        private final int[] bytes = new int[MOST_BYTES];
        int length;
        int wrongCode;
        int wrongAt = NONE;
        private int token;
        private int tokenStart;
        private int tokenEnd;
        private int number;

        boolean hasRoom(int more) {
            return length + more <= MOST_BYTES;
        }

        void addByte(int value) {
            if (length >= 0 && length < MOST_BYTES) {
                bytes[length] = value & 255;
                length++;
            }
        }

        private int byteAt(int index) {
            return index >= 0 && index < length && index < MOST_BYTES ? bytes[index] : NONE;
        }

        /** Whether the text is a setup; if it is not, the state is left half done. */
        boolean read(State box) {
            wrongCode = 0;
            wrongAt = NONE;
            tokenEnd = 0;
            if (!readHead(box)) {
                return false;
            }
            // Each statement takes a byte at least.
            for (int statements = 0; statements <= length; statements++) {
                nextToken();
                if (token == END) {
                    return true;
                }
                if (!readStatement(box) || !needToken(SEMICOLON)) {
                    return false;
                }
            }
            return false;
        }

        private boolean readHead(State box) {
            if (!needWord("angle") || !needToken(NUMBER)) {
                return false;
            }
            if (!Layout.isAngle(number)) {
                return isWrong(WRONG_RANGE);
            }
            int angle = number;
            if (!needWord("radius") || !needNumber(1, REACH)) {
                return false;
            }
            box.begin(angle, number);
            return needToken(SEMICOLON);
        }

        private boolean readStatement(State box) {
            int kind = kindByWord();
            if (kind != NONE) {
                return readChip(box, kind);
            }
            if (isWord("down")) {
                return readDown(box);
            }
            if (isWord("keep")) {
                return readKeep(box);
            }
            if (isWord("cover")) {
                return readCover(box);
            }
            return isWrong(WRONG_TOKEN);
        }

        private int kindByWord() {
            if (isWord("glass")) {
                return GLASS;
            }
            if (isWord("bead")) {
                return BEAD;
            }
            if (isWord("bubble")) {
                return BUBBLE;
            }
            return isWord("pin") ? PIN : NONE;
        }

        private boolean readChip(State box, int kind) {
            if (box.came >= MOST_CHIPS) {
                return isWrong(WRONG_MANY);
            }
            if (!needNumber(1, 9)) {
                return false;
            }
            int colour = number;
            if (!needNumber(1, 9)) {
                return false;
            }
            int weight = number;
            if (!needPlace()) {
                return false;
            }
            int x = number;
            if (!needPlace()) {
                return false;
            }
            int cell = box.layout.boxCell(x, number);
            if (cell == NONE || box.chipOn(cell) != NONE) {
                return isWrong(WRONG_PLACE);
            }
            box.bring(kind, colour, weight, cell);
            return true;
        }

        private boolean readDown(State box) {
            if (!needNumber(0, box.layout.directions() - 1)) {
                return false;
            }
            box.down = number;
            return true;
        }

        private boolean readKeep(State box) {
            if (!needNumber(1, 100)) {
                return false;
            }
            box.keep = number;
            return true;
        }

        private boolean readCover(State box) {
            if (!needNumber(0, box.layout.mirrors() - 1)) {
                return false;
            }
            if (box.isCovered(number)) {
                return isWrong(WRONG_PLACE);
            }
            box.setCovered(number, true);
            return true;
        }

        private boolean isWrong(int code) {
            wrongCode = code;
            wrongAt = tokenStart;
            return false;
        }

        private boolean needToken(int wanted) {
            nextToken();
            return token == wanted || isWrong(WRONG_TOKEN);
        }

        private boolean needWord(String word) {
            nextToken();
            return isWord(word) || isWrong(WRONG_TOKEN);
        }

        private boolean needNumber(int least, int most) {
            nextToken();
            if (token != NUMBER) {
                return isWrong(WRONG_TOKEN);
            }
            return number >= least && number <= most || isWrong(WRONG_RANGE);
        }

        private boolean needPlace() {
            nextToken();
            boolean isNegative = token == MINUS;
            if (isNegative) {
                nextToken();
            }
            if (token != NUMBER) {
                return isWrong(WRONG_TOKEN);
            }
            if (number > REACH) {
                return isWrong(WRONG_RANGE);
            }
            number = isNegative ? -number : number;
            return true;
        }

        private boolean isWord(String word) {
            if (token != WORD || tokenEnd - tokenStart != word.length()) {
                return false;
            }
            for (int i = 0; i < word.length(); i++) {
                if (byteAt(tokenStart + i) != word.charAt(i)) {
                    return false;
                }
            }
            return true;
        }

        private void nextToken() {
            int at = tokenEnd;
            while (at < length && isBlank(byteAt(at))) {
                at++;
            }
            tokenStart = at;
            token = tokenOf(byteAt(at));
            if (at < length) {
                at++;
            }
            while (at < length && isRun(token) && tokenOf(byteAt(at)) == token) {
                at++;
            }
            tokenEnd = at;
            if (token == NUMBER) {
                readNumber();
            }
        }

        private static boolean isBlank(int value) {
            return value == ' ' || value == '\n';
        }

        private static boolean isRun(int token) {
            return token == WORD || token == NUMBER;
        }

        private static int tokenOf(int value) {
            if (value == NONE) {
                return END;
            }
            if (value >= 'a' && value <= 'z') {
                return WORD;
            }
            if (value >= '0' && value <= '9') {
                return NUMBER;
            }
            if (value == '-') {
                return MINUS;
            }
            return value == ';' ? SEMICOLON : STRAY;
        }

        private void readNumber() {
            number = 0;
            for (int at = tokenStart; at < tokenEnd; at++) {
                number = Math.min(number * 10 + byteAt(at) - '0', TOO_GREAT);
            }
        }
    }
}
