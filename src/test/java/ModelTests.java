import java.lang.reflect.InvocationTargetException;
import java.lang.reflect.Method;
import java.util.ArrayList;
import java.util.Comparator;
import java.util.List;
import java.util.Random;

/** Long runs of calls, always the same ones, on the class and on the model: the answers have to be equal. */
public final class ModelTests {
    private static final int RUNS = 400;
    private static final int CALLS = 512;
    private static final int[] ANGLES = {180, 90, 45, 60, 30};
    private static final int[] FAR = {Integer.MIN_VALUE, Integer.MAX_VALUE, 1 << 30, -(1 << 30), 100, -100, 13, -13};

    private final Random random;
    private final KaleidoscopeBox box = new KaleidoscopeBox();
    private final Model model = new Model();
    private final List<Method> calls = new ArrayList<>();
    private final List<String> log = new ArrayList<>();
    private int made;

    private ModelTests(long seed) {
        random = new Random(seed);
        for (Method m : KaleidoscopeBox.class.getDeclaredMethods()) {
            if (java.lang.reflect.Modifier.isPublic(m.getModifiers())) {
                calls.add(m);
            }
        }
        calls.sort(Comparator.comparing(Method::getName));
    }

    public static void main(String[] args) throws Exception {
        int runs = args.length > 0 ? Integer.parseInt(args[0]) : RUNS;
        int first = args.length > 1 ? Integer.parseInt(args[1]) : 0;
        for (int seed = first; seed < first + runs; seed++) {
            ModelTests test = new ModelTests(seed);
            if (!test.run()) {
                System.out.println("seed " + seed);
                test.log.forEach(System.out::println);
                System.exit(1);
            }
        }
        System.out.println("ModelTests: " + runs + " runs of " + CALLS + " calls as the model answers them");
    }

    private boolean run() throws Exception {
        if (random.nextInt(8) > 0 && !loadSetup()) {
            return false;
        }
        while (made < CALLS) {
            int choice = random.nextInt(100);
            boolean same;
            if (choice == 0) {
                same = loadSetup();
            } else if (choice < 40) {
                same = call(named(List.of("add", "add", "take", "push", "push", "paint", "turn", "turn", "tick",
                    "settle", "cover", "setKeep", "undo", "tick", "settle", "undo").get(random.nextInt(16))));
            } else {
                same = call(calls.get(random.nextInt(calls.size())));
            }
            if (!same) {
                return false;
            }
        }
        return true;
    }

    private Method named(String name) {
        for (Method m : calls) {
            if (m.getName().equals(name)) {
                return m;
            }
        }
        throw new IllegalArgumentException(name);
    }

    private boolean call(Method m) throws Exception {
        Object[] args = new Object[m.getParameterCount()];
        for (int i = 0; i < args.length; i++) {
            args[i] = m.getParameterTypes()[i] == boolean.class ? (Object) random.nextBoolean()
                : (Object) number(m.getName(), i);
        }
        return same(m, args);
    }

    private int number(String name, int index) {
        if (name.equals("appendText")) {
            return random.nextInt();
        }
        if (random.nextInt(60) == 0) {
            return FAR[random.nextInt(FAR.length)];
        }
        int radius = model.count(1);
        boolean isPlace = name.equals("add") && index > 2 || name.equals("mapped") && index > 0
            || List.of("chipAt", "depth", "colour", "brightness", "reflections", "source", "images", "regionSize")
                .contains(name);
        if (isPlace) {
            boolean isBox = List.of("add", "chipAt", "images").contains(name);
            return isBox && random.nextInt(6) > 0 ? random.nextInt(radius + 1)
                : random.nextInt(2 * radius + 3) - radius - 1;
        }
        boolean isChip = index == 0 && List.of("chip", "take", "push", "paint", "restsAt").contains(name);
        if (isChip) {
            return random.nextInt(model.count(5) + 2) - (random.nextInt(10) == 0 ? 1 : 0);
        }
        return switch (name) {
            case "truncateText" -> random.nextInt(12) - 1;
            case "setKeep" -> random.nextInt(102);
            case "count" -> random.nextInt(18) - 1;
            case "output" -> random.nextInt(190) - 1;
            case "cover", "matches", "save", "restore" -> random.nextInt(3) - random.nextInt(2);
            case "mapped" -> random.nextInt(14) - 1;
            case "add" -> index == 0 ? random.nextInt(20) == 0 ? 4 : random.nextInt(4)
                : random.nextInt(10) + (random.nextInt(10) > 0 && random.nextBoolean() ? 0 : 1);
            case "account", "chip" -> random.nextInt(8) - 1;
            default -> random.nextInt(10) - (random.nextInt(10) == 0 ? 1 : 0);
        };
    }

    private boolean same(Method m, Object... args) throws Exception {
        if (made == CALLS) {
            return true;
        }
        made++;
        String got = answer(m, box, args);
        String due = answer(Model.class.getDeclaredMethod(m.getName(), m.getParameterTypes()), model, args);
        log.add(m.getName() + java.util.Arrays.toString(args) + " " + got);
        if (!got.equals(due)) {
            log.add("due is " + due);
        }
        return got.equals(due);
    }

    private static String answer(Method m, Object target, Object[] args) throws Exception {
        try {
            return String.valueOf(m.invoke(target, args));
        } catch (InvocationTargetException e) {
            return e.getCause().getClass().getName();
        }
    }

    private boolean loadSetup() throws Exception {
        String text = random.nextInt(4) == 0 ? spoiled(setup()) : setup();
        text = text.length() > 600 ? text.substring(0, 600) : text;
        boolean same = same(named("truncateText"), 0);
        for (int i = 0; i < text.length(); i += 4) {
            int bytes = 0;
            for (int j = i; j < i + 4; j++) {
                bytes = bytes << 8 | (j < text.length() ? text.charAt(j) : '?');
            }
            same &= same(named("appendText"), bytes);
        }
        log.add(text);
        return same && same(named("truncateText"), text.length()) && same(named("load"))
            && same(named("errorCode")) && same(named("errorPosition"));
    }

    private String setup() {
        StringBuilder b = new StringBuilder();
        int angle = ANGLES[random.nextInt(5)];
        int radius = 1 + random.nextInt(6);
        b.append("angle ").append(angle).append(" radius ").append(radius).append(';');
        int chips = random.nextInt(4) == 0 ? random.nextInt(34) : random.nextInt(10);
        for (int i = 0; i < chips; i++) {
            int x = random.nextInt(radius + 1);
            int y = random.nextInt(radius + 1);
            if (angle == 180) {
                x = random.nextInt(2 * radius + 1) - radius;
            } else if (angle == 45 || angle == 30) {
                y = random.nextInt(x + 1);
            }
            if (angle == 60 && x + y > radius || angle == 30 && x + y > radius) {
                x = random.nextInt(5) > 0 ? radius - y : x;
            }
            b.append(List.of("glass", "bead", "bead", "bubble", "pin").get(random.nextInt(5)));
            b.append(random.nextInt(9) + 1).append(' ').append(random.nextInt(9) + 1).append(' ');
            b.append(x).append(' ').append(y).append(';');
        }
        for (int i = random.nextInt(3); i > 0; i--) {
            b.append(switch (random.nextInt(3)) {
                case 0 -> "down " + random.nextInt(7) + ";\n";
                case 1 -> "keep " + (random.nextInt(100) + 1) + "; ";
                default -> "cover " + random.nextInt(2) + ";";
            });
        }
        return withoutClashes(b.toString());
    }

    /** Mostly a setup without an error: chips in a cell that has one already are left out. */
    private String withoutClashes(String text) {
        if (random.nextInt(6) == 0) {
            return text;
        }
        StringBuilder b = new StringBuilder();
        List<String> places = new ArrayList<>();
        for (String part : text.split("(?<=;)")) {
            String[] words = part.trim().split(" ");
            String place = words.length == 4 && !part.contains("angle") ? words[2] + " " + words[3] : null;
            if (place == null || !places.contains(place)) {
                b.append(part);
            }
            places.add(place);
        }
        return b.toString();
    }

    private String spoiled(String text) {
        int at = random.nextInt(text.length());
        String in = List.of("", " ", "-", ";", "x", "7", "0000", "\n", "A", "\u00e9", "\0", "999999999999", "pin ",
            "cover 0;", "$", "-0", "- ").get(random.nextInt(17));
        return text.substring(0, at) + in + text.substring(random.nextInt(3) == 0 ? text.length()
            : Math.min(text.length(), at + random.nextInt(3)));
    }
}
