import java.util.ArrayDeque;
import java.util.ArrayList;
import java.util.Comparator;
import java.util.Deque;
import java.util.HashMap;
import java.util.HashSet;
import java.util.LinkedHashSet;
import java.util.List;
import java.util.Map;
import java.util.Set;
import java.util.TreeSet;
import java.util.function.UnaryOperator;

/** The document once more, written for plainness alone: what the class answers is held against it. */
public final class Model {
    record Cell(int x, int y) { }

    static final class Chip {
        int kind;
        int colour;
        int weight;
        Cell cell;
        int moves;

        Chip(int kind, int colour, int weight, Cell cell, int moves) {
            this.kind = kind;
            this.colour = colour;
            this.weight = weight;
            this.cell = cell;
            this.moves = moves;
        }
    }

    static final class Wrong extends RuntimeException {
        private static final long serialVersionUID = 1L;
        final int code;
        final int position;

        Wrong(int code, int position) {
            this.code = code;
            this.position = position;
        }
    }

    record Token(char kind, String text, int start) { }

    static final class Setup {
        int angle;
        int radius;
        int down = 0;
        int keep = 90;
        int ticks = 0;
        Set<Integer> covered = new TreeSet<>();
        int moved = 0;
        int exchanged = 0;
        int sideways = 0;
        List<Chip> chips = new ArrayList<>();

        Setup(int angle, int radius) {
            this.angle = angle;
            this.radius = radius;
        }

        Setup copy() {
            Setup s = new Setup(angle, radius);
            s.down = down;
            s.keep = keep;
            s.ticks = ticks;
            s.covered.addAll(covered);
            s.moved = moved;
            s.exchanged = exchanged;
            s.sideways = sideways;
            for (Chip c : chips) {
                s.chips.add(new Chip(c.kind, c.colour, c.weight, c.cell, c.moves));
            }
            return s;
        }

        boolean hex() {
            return angle == 60 || angle == 30;
        }

        List<Cell> steps() {
            return hex()
                ? List.of(new Cell(1, 0), new Cell(0, 1), new Cell(-1, 1), new Cell(-1, 0), new Cell(0, -1),
                    new Cell(1, -1))
                : List.of(new Cell(1, 0), new Cell(1, 1), new Cell(0, 1), new Cell(-1, 1), new Cell(-1, 0),
                    new Cell(-1, -1), new Cell(0, -1), new Cell(1, -1));
        }

        Cell step(int direction) {
            return steps().get(Math.floorMod(direction, steps().size()));
        }

        Cell beyond(Cell c, int direction) {
            return new Cell(c.x + step(direction).x, c.y + step(direction).y);
        }

        boolean inPicture(long x, long y) {
            long distance = Math.max(Math.abs(x), Math.abs(y));
            if (hex()) {
                distance = Math.max(distance, Math.abs(x + y));
            }
            return distance <= radius;
        }

        boolean inBox(long x, long y) {
            boolean between = switch (angle) {
                case 180 -> y >= 0;
                case 90, 60 -> x >= 0 && y >= 0;
                default -> y >= 0 && x >= y;
            };
            return between && inPicture(x, y);
        }

        boolean inBox(Cell c) {
            return inBox(c.x, c.y);
        }

        List<Cell> picture() {
            List<Cell> cells = new ArrayList<>();
            for (int x = -radius; x <= radius; x++) {
                for (int y = -radius; y <= radius; y++) {
                    if (inPicture(x, y)) {
                        cells.add(new Cell(x, y));
                    }
                }
            }
            return cells;
        }

        int depth(Cell c) {
            Cell s = step(down);
            int plain = c.x * s.x + c.y * s.y;
            return hex() ? 2 * plain + c.x * s.y + c.y * s.x : plain;
        }

        int mirrors() {
            return angle == 180 ? 1 : 2;
        }

        Cell mirror(int mirror, Cell c) {
            if (mirror == 0) {
                return hex() ? new Cell(c.x + c.y, -c.y) : new Cell(c.x, -c.y);
            }
            return switch (angle) {
                case 90 -> new Cell(-c.x, c.y);
                case 60 -> new Cell(-c.x, c.x + c.y);
                case 45, 30 -> new Cell(c.y, c.x);
                default -> throw new IllegalStateException();
            };
        }

        /** The source, and in its moves the reflections; null if the cell is not seen. */
        Chip look(Cell c) {
            Map<Cell, Integer> found = new HashMap<>();
            Deque<Cell> todo = new ArrayDeque<>();
            found.put(c, 0);
            todo.add(c);
            Chip answer = null;
            while (!todo.isEmpty()) {
                Cell at = todo.remove();
                if (inBox(at)) {
                    if (answer != null && !answer.cell.equals(at)) {
                        throw new IllegalStateException("two sources");
                    }
                    if (answer == null) {
                        answer = new Chip(0, 0, 0, at, found.get(at));
                    }
                }
                for (int m = 0; m < mirrors(); m++) {
                    if (!covered.contains(m) && !found.containsKey(mirror(m, at))) {
                        found.put(mirror(m, at), found.get(at) + 1);
                        todo.add(mirror(m, at));
                    }
                }
            }
            return answer;
        }

        int chipAt(Cell c) {
            for (int i = 0; i < chips.size(); i++) {
                if (c.equals(chips.get(i).cell)) {
                    return i;
                }
            }
            return -1;
        }

        int colour(Cell c) {
            Chip seen = look(c);
            if (seen == null || chipAt(seen.cell) < 0) {
                return 0;
            }
            return chips.get(chipAt(seen.cell)).colour;
        }

        int brightness(Cell c) {
            Chip seen = look(c);
            if (seen == null) {
                return 0;
            }
            int bright = 1000;
            for (int i = 0; i < seen.moves; i++) {
                bright = (int) Math.floor(bright * (long) keep / 100.0);
            }
            return bright;
        }

        Map<Cell, Integer> colours() {
            Map<Cell, Integer> all = new HashMap<>();
            for (Cell c : picture()) {
                all.put(c, colour(c));
            }
            return all;
        }

        Cell map(int map, Cell c) {
            int half = hex() ? 6 : 4;
            Cell at = map >= half ? mirror(0, c) : c;
            for (int i = 0; i < map % half; i++) {
                at = hex() ? new Cell(-at.y, at.x + at.y) : new Cell(-at.y, at.x);
            }
            return at;
        }

        int maps() {
            return hex() ? 12 : 8;
        }

        int symmetries() {
            Map<Cell, Integer> colours = colours();
            int set = 0;
            for (int m = 0; m < maps(); m++) {
                boolean all = true;
                for (Cell c : colours.keySet()) {
                    all &= colours.get(c).equals(colours.get(map(m, c)));
                }
                set += all ? 1 << m : 0;
            }
            return set;
        }

        List<Set<Cell>> regions() {
            Map<Cell, Integer> colours = colours();
            List<Set<Cell>> regions = new ArrayList<>();
            Set<Cell> left = new HashSet<>(colours.keySet());
            left.removeIf(c -> colours.get(c) == 0);
            while (!left.isEmpty()) {
                Cell first = left.iterator().next();
                Set<Cell> region = new HashSet<>(Set.of(first));
                boolean grew = true;
                while (grew) {
                    Set<Cell> more = new HashSet<>();
                    for (Cell c : region) {
                        for (int d = 0; d < steps().size(); d++) {
                            Cell n = beyond(c, d);
                            if (colours.containsKey(n) && colours.get(n).equals(colours.get(first))) {
                                more.add(n);
                            }
                        }
                    }
                    grew = region.addAll(more);
                }
                regions.add(region);
                left.removeAll(region);
            }
            return regions;
        }

        int regionCount(int colour) {
            int n = 0;
            for (Set<Cell> r : regions()) {
                n += colour == 0 || colour(r.iterator().next()) == colour ? 1 : 0;
            }
            return n;
        }

        int edges() {
            Map<Cell, Integer> colours = colours();
            Set<Set<Cell>> pairs = new HashSet<>();
            for (Cell c : colours.keySet()) {
                for (int d = 0; d < steps().size(); d++) {
                    Cell n = beyond(c, d);
                    if (colours.containsKey(n) && colours.get(n) != 0 && colours.get(c) != 0
                            && !colours.get(n).equals(colours.get(c))) {
                        pairs.add(Set.of(c, n));
                    }
                }
            }
            return pairs.size();
        }

        int cellsOf(int colour) {
            int n = 0;
            for (int c : colours().values()) {
                n += c == colour ? 1 : 0;
            }
            return n;
        }

        int inBoxCount() {
            int n = 0;
            for (Chip c : chips) {
                n += c.cell != null ? 1 : 0;
            }
            return n;
        }

        int tick() {
            int made = 0;
            List<Chip> heavy = new ArrayList<>();
            for (Chip c : chips) {
                if (c.cell != null && c.kind < 2) {
                    heavy.add(c);
                }
            }
            heavy.sort(Comparator.<Chip>comparingInt(c -> -depth(c.cell)).thenComparingInt(c -> -c.weight));
            for (Chip c : heavy) {
                List<Integer> tries = new ArrayList<>(List.of(down));
                if (c.kind == 1) {
                    tries.add(ticks % 2 == 1 ? down - 1 : down + 1);
                    tries.add(ticks % 2 == 1 ? down + 1 : down - 1);
                }
                for (int d : tries) {
                    Cell to = beyond(c.cell, d);
                    if (!inBox(to)) {
                        continue;
                    }
                    int other = chipAt(to);
                    if (other >= 0 && (d != down || chips.get(other).kind != 2)) {
                        continue;
                    }
                    if (other >= 0) {
                        chips.get(other).cell = c.cell;
                        exchanged++;
                    }
                    c.cell = to;
                    c.moves++;
                    made++;
                    sideways += d == down ? 0 : 1;
                    break;
                }
            }
            List<Chip> light = new ArrayList<>();
            for (Chip c : chips) {
                if (c.cell != null && c.kind == 2) {
                    light.add(c);
                }
            }
            light.sort(Comparator.<Chip>comparingInt(c -> depth(c.cell)).thenComparingInt(c -> c.weight));
            for (Chip c : light) {
                Cell to = new Cell(c.cell.x - step(down).x, c.cell.y - step(down).y);
                if (inBox(to) && chipAt(to) < 0) {
                    c.cell = to;
                    c.moves++;
                    made++;
                }
            }
            ticks++;
            moved += made;
            return made;
        }

        int settle() {
            int n = 0;
            while (copy().tick() > 0) {
                tick();
                n++;
            }
            return n;
        }

        List<Cell> cells() {
            List<Cell> all = new ArrayList<>();
            for (Chip c : chips) {
                all.add(c.cell);
            }
            return all;
        }

        void turn(int steps) {
            down = (down + steps) % steps().size();
        }
    }

    private Setup now = new Setup(60, 3);
    private final Deque<Setup> past = new ArrayDeque<>();
    private final Setup[] slots = new Setup[2];
    private final int[] accounts = new int[6];
    private String text = "";
    private String output = "";
    private int errorCode = 0;
    private int errorPosition = -1;

    public int appendText(int fourBytes) {
        if (text.length() > 596) {
            throw new IllegalStateException();
        }
        for (int shift = 24; shift >= 0; shift -= 8) {
            text += (char) (fourBytes >> shift & 255);
        }
        return text.length();
    }

    public int truncateText(int length) {
        need(length >= 0 && length <= text.length());
        text = text.substring(0, length);
        return length;
    }

    public int load() {
        errorCode = 0;
        errorPosition = -1;
        try {
            now = parse(text);
            past.clear();
            return now.chips.size();
        } catch (Wrong w) {
            errorCode = w.code;
            errorPosition = w.position;
            return -1;
        } finally {
            text = "";
        }
    }

    private static Deque<Token> tokens(String text) {
        Deque<Token> all = new ArrayDeque<>();
        int i = 0;
        while (i < text.length()) {
            String rest = text.substring(i);
            String run = rest.replaceFirst("(?s)^([a-z]+|[0-9]+|.).*$", "$1");
            char c = run.charAt(0);
            if (c != ' ' && c != '\n') {
                char kind = Character.isDigit(c) && c < 128 ? '0' : c >= 'a' && c <= 'z' ? 'a' : c;
                all.add(new Token(kind, run, i));
            }
            i += run.length();
        }
        all.add(new Token('$' , "", text.length()));
        return all;
    }

    private static Token need(Deque<Token> tokens, char kind, String... words) {
        Token t = tokens.peek();
        boolean ok = t.kind == kind && !(kind == '$' && !t.text.isEmpty());
        if (ok && words.length > 0 && !List.of(words).contains(t.text)) {
            ok = false;
        }
        if (!ok) {
            throw new Wrong(1, t.start);
        }
        tokens.remove();
        return t;
    }

    private static int number(Token t, int least, int most) {
        java.math.BigInteger n = new java.math.BigInteger(t.text);
        if (n.compareTo(java.math.BigInteger.valueOf(least)) < 0
                || n.compareTo(java.math.BigInteger.valueOf(most)) > 0) {
            throw new Wrong(2, t.start);
        }
        return n.intValue();
    }

    private static Setup parse(String text) {
        Deque<Token> tokens = tokens(text);
        need(tokens, 'a', "angle");
        Token t = need(tokens, '0');
        int angle = number(t, 30, 180);
        if (!List.of(180, 90, 45, 60, 30).contains(angle)) {
            throw new Wrong(2, t.start);
        }
        need(tokens, 'a', "radius");
        Setup s = new Setup(angle, number(need(tokens, '0'), 1, 6));
        need(tokens, ';');
        while (tokens.size() > 1) {
            Token first = need(tokens, 'a', "glass", "bead", "bubble", "pin", "down", "keep", "cover");
            switch (first.text) {
                case "down" -> s.down = number(need(tokens, '0'), 0, s.steps().size() - 1);
                case "keep" -> s.keep = number(need(tokens, '0'), 1, 100);
                case "cover" -> {
                    Token m = need(tokens, '0');
                    if (!s.covered.add(number(m, 0, s.mirrors() - 1))) {
                        throw new Wrong(3, m.start);
                    }
                }
                default -> {
                    if (s.chips.size() == 30) {
                        throw new Wrong(4, first.start);
                    }
                    int colour = number(need(tokens, '0'), 1, 9);
                    int weight = number(need(tokens, '0'), 1, 9);
                    int[] place = new int[2];
                    Token last = null;
                    for (int i = 0; i < 2; i++) {
                        int sign = 1;
                        if (tokens.peek().kind == '-') {
                            tokens.remove();
                            sign = -1;
                        }
                        last = need(tokens, '0');
                        place[i] = sign * number(last, 0, 6);
                    }
                    Cell c = new Cell(place[0], place[1]);
                    if (!s.inBox(c) || s.chipAt(c) >= 0) {
                        throw new Wrong(3, last.start);
                    }
                    int kind = List.of("glass", "bead", "bubble", "pin").indexOf(first.text);
                    s.chips.add(new Chip(kind, colour, weight, c, 0));
                }
            }
            need(tokens, ';');
        }
        return s;
    }

    public int errorCode() {
        return errorCode;
    }

    public int errorPosition() {
        return errorPosition;
    }

    private static void need(boolean ok) {
        if (!ok) {
            throw new IllegalArgumentException();
        }
    }

    private static void needIndex(boolean ok) {
        if (!ok) {
            throw new IndexOutOfBoundsException();
        }
    }

    private Cell pictureCell(int x, int y) {
        needIndex(now.inPicture(x, y));
        return new Cell(x, y);
    }

    private Cell boxCell(int x, int y) {
        needIndex(now.inBox(x, y));
        return new Cell(x, y);
    }

    private Chip chip(int chip) {
        needIndex(chip >= 0 && chip < now.chips.size());
        return now.chips.get(chip);
    }

    private int seen() {
        int n = 0;
        for (Cell c : now.picture()) {
            n += now.look(c) != null ? 1 : 0;
        }
        return n;
    }

    public int count(int what) {
        need(what >= 0 && what <= 15);
        int boxCells = 0;
        for (Cell c : now.picture()) {
            boxCells += now.inBox(c) ? 1 : 0;
        }
        int covered = 0;
        for (int m : now.covered) {
            covered += 1 << m;
        }
        return new int[] {now.angle, now.radius, now.down, now.keep, now.ticks, now.chips.size(), now.inBoxCount(),
            boxCells, now.picture().size(), seen(), covered, now.moved, now.exchanged, now.sideways,
            now.steps().size(), past.size()}[what];
    }

    public int chip(int chip, int what) {
        Chip c = chip(chip);
        need(what >= 0 && what <= 5);
        Cell cell = c.cell == null ? new Cell(-100, -100) : c.cell;
        return new int[] {c.kind, c.colour, c.weight, cell.x, cell.y, c.moves}[what];
    }

    public int chipAt(int x, int y) {
        return now.chipAt(boxCell(x, y));
    }

    public int depth(int x, int y) {
        return now.depth(pictureCell(x, y));
    }

    public int account(int what) {
        need(what >= 0 && what <= 5);
        return accounts[what];
    }

    public int colour(int x, int y) {
        return now.colour(pictureCell(x, y));
    }

    public int brightness(int x, int y) {
        return now.brightness(pictureCell(x, y));
    }

    public int reflections(int x, int y) {
        Chip seen = now.look(pictureCell(x, y));
        return seen == null ? -1 : seen.moves;
    }

    public int source(int x, int y, boolean isY) {
        Chip seen = now.look(pictureCell(x, y));
        return seen == null ? -100 : isY ? seen.cell.y : seen.cell.x;
    }

    public int images(int x, int y) {
        Cell cell = boxCell(x, y);
        int n = 0;
        for (Cell c : now.picture()) {
            n += now.look(c) != null && now.look(c).cell.equals(cell) ? 1 : 0;
        }
        return n;
    }

    public int cellsOf(int colour) {
        need(colour >= 0 && colour <= 9);
        return now.cellsOf(colour);
    }

    public int commonest(int rank) {
        need(rank >= 0 && rank <= 8);
        List<Integer> colours = new ArrayList<>();
        for (int c = 1; c <= 9; c++) {
            if (now.cellsOf(c) > 0) {
                colours.add(c);
            }
        }
        colours.sort(Comparator.comparingInt(c -> -now.cellsOf(c)));
        return rank < colours.size() ? colours.get(rank) : -1;
    }

    public int regions(int colour) {
        need(colour >= 0 && colour <= 9);
        return now.regionCount(colour);
    }

    public int regionSize(int x, int y) {
        Cell cell = pictureCell(x, y);
        for (Set<Cell> r : now.regions()) {
            if (r.contains(cell)) {
                return r.size();
            }
        }
        return 0;
    }

    public int edges() {
        return now.edges();
    }

    public int light() {
        int sum = 0;
        for (Cell c : now.picture()) {
            sum += now.colour(c) != 0 ? now.brightness(c) : 0;
        }
        return sum;
    }

    public int symmetries() {
        return now.symmetries();
    }

    public int ownMaps() {
        // What a map does to all cells of the picture tells which one it is.
        Set<List<Cell>> made = new LinkedHashSet<>();
        Deque<List<Cell>> todo = new ArrayDeque<>(List.of(now.picture()));
        while (!todo.isEmpty()) {
            List<Cell> at = todo.remove();
            if (made.add(at)) {
                for (int m = 0; m < now.mirrors(); m++) {
                    int mirror = m;
                    todo.add(each(at, c -> now.mirror(mirror, c)));
                }
            }
        }
        int set = 0;
        for (int map = 0; map < now.maps(); map++) {
            int m = map;
            set += made.contains(each(now.picture(), c -> now.map(m, c))) ? 1 << map : 0;
        }
        if (Integer.bitCount(set) != made.size()) {
            throw new IllegalStateException("own maps that are no maps");
        }
        return set;
    }

    private static List<Cell> each(List<Cell> cells, UnaryOperator<Cell> map) {
        List<Cell> all = new ArrayList<>();
        for (Cell c : cells) {
            all.add(map.apply(c));
        }
        return all;
    }

    public int mapped(int map, int x, int y, boolean isY) {
        needIndex(map >= 0 && map < now.maps());
        Cell to = now.map(map, pictureCell(x, y));
        return isY ? to.y : to.x;
    }

    public int matches(int slot) {
        Setup saved = saved(slot);
        if (saved.radius != now.radius || saved.hex() != now.hex()) {
            return -1;
        }
        Map<Cell, Integer> colours = now.colours();
        for (int m = 0; m < now.maps(); m++) {
            boolean all = true;
            for (Cell c : saved.picture()) {
                all &= saved.colour(c) == colours.get(now.map(m, c));
            }
            if (all) {
                return m;
            }
        }
        return -1;
    }

    private int refuse(int reason) {
        accounts[reason]++;
        return -reason;
    }

    private void done() {
        accounts[0]++;
        past.push(now);
        now = now.copy();
        while (past.size() > 8) {
            past.removeLast();
        }
    }

    public int add(int kind, int colour, int weight, int x, int y) {
        Cell cell = boxCell(x, y);
        need(kind >= 0 && kind <= 3);
        need(colour >= 1 && colour <= 9);
        need(weight >= 1 && weight <= 9);
        if (now.chips.size() == 30) {
            return refuse(1);
        }
        if (now.chipAt(cell) >= 0) {
            return refuse(2);
        }
        done();
        now.chips.add(new Chip(kind, colour, weight, cell, 0));
        return now.chips.size() - 1;
    }

    public int take(int chip) {
        if (chip(chip).cell == null) {
            return refuse(3);
        }
        done();
        chip(chip).cell = null;
        return now.inBoxCount();
    }

    public int push(int chip, int direction) {
        Chip c = chip(chip);
        needIndex(direction >= 0 && direction < now.steps().size());
        if (c.cell == null) {
            return refuse(3);
        }
        Cell to = now.beyond(c.cell, direction);
        if (!now.inBox(to)) {
            return refuse(4);
        }
        if (now.chipAt(to) >= 0) {
            return refuse(2);
        }
        done();
        chip(chip).cell = to;
        return moves();
    }

    public int paint(int chip, int colour) {
        Chip c = chip(chip);
        need(colour >= 1 && colour <= 9);
        if (c.cell == null) {
            return refuse(3);
        }
        done();
        chip(chip).colour = colour;
        return now.cellsOf(colour);
    }

    public int turn(int steps) {
        need(steps >= 1 && steps <= 7);
        done();
        now.turn(steps);
        return now.down;
    }

    public int tick() {
        if (moves() == 0) {
            return refuse(5);
        }
        done();
        return now.tick();
    }

    public int settle() {
        if (moves() == 0) {
            return refuse(5);
        }
        done();
        return now.settle();
    }

    public int cover(int mirror, boolean isCovered) {
        needIndex(mirror >= 0 && mirror < now.mirrors());
        if (now.covered.contains(mirror) == isCovered) {
            return refuse(4);
        }
        done();
        if (isCovered) {
            now.covered.add(mirror);
        } else {
            now.covered.remove(mirror);
        }
        return seen();
    }

    public int setKeep(int keep) {
        need(keep >= 1 && keep <= 100);
        done();
        int before = now.keep;
        now.keep = keep;
        return before;
    }

    public int moves() {
        return now.copy().tick();
    }

    public int restsAt(int chip, boolean isY) {
        if (chip(chip).cell == null) {
            throw new IllegalStateException();
        }
        Setup s = now.copy();
        s.settle();
        Cell c = s.chips.get(chip).cell;
        return isY ? c.y : c.x;
    }

    public int settled(int steps, int what) {
        need(steps >= 0 && steps <= 7);
        need(what >= 0 && what <= 5);
        Setup s = now.copy();
        s.turn(steps);
        int ticks = s.settle();
        int depths = 0;
        for (Chip c : s.chips) {
            depths += c.cell == null ? 0 : s.depth(c.cell);
        }
        return switch (what) {
            case 0 -> ticks;
            case 1 -> s.moved - now.moved;
            case 2 -> s.regionCount(0);
            case 3 -> s.edges();
            case 4 -> s.symmetries();
            default -> depths;
        };
    }

    public int bestTurn(int colour) {
        need(colour >= 1 && colour <= 9);
        int best = 0;
        int most = -1;
        for (int steps = 0; steps < now.steps().size(); steps++) {
            Setup s = now.copy();
            s.turn(steps);
            s.settle();
            if (s.cellsOf(colour) > most) {
                most = s.cellsOf(colour);
                best = steps;
            }
        }
        return best;
    }

    public int period(int steps) {
        need(steps >= 1 && steps <= 7);
        Setup s = now.copy();
        for (int n = 1; n <= 48; n++) {
            s.turn(steps);
            s.settle();
            if (s.down == now.down && s.cells().equals(now.cells())) {
                return n;
            }
        }
        return -1;
    }

    public double meanBrightness() {
        double sum = 0;
        for (Cell c : now.picture()) {
            sum += now.brightness(c);
        }
        return sum / seen();
    }

    public float filled() {
        return (float) now.inBoxCount() / (float) count(7);
    }

    public int write() {
        StringBuilder b = new StringBuilder();
        for (int y = now.radius; y >= -now.radius; y--) {
            for (int x = -now.radius; x <= now.radius; x++) {
                b.append(now.inPicture(x, y) ? "" + now.colour(new Cell(x, y)) : " ");
            }
            b.append('\n');
        }
        output = b.toString();
        return output.length();
    }

    public int output(int index) {
        return index >= 0 && index < output.length() ? output.charAt(index) : -1;
    }

    public int undo() {
        if (past.isEmpty()) {
            return -1;
        }
        now = past.pop();
        return past.size();
    }

    public void save(int slot) {
        need(slot == 0 || slot == 1);
        slots[slot] = now.copy();
    }

    private Setup saved(int slot) {
        need(slot == 0 || slot == 1);
        if (slots[slot] == null) {
            throw new IllegalStateException();
        }
        return slots[slot];
    }

    public void restore(int slot) {
        now = saved(slot).copy();
        past.clear();
    }
}
