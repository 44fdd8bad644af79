import java.lang.reflect.Constructor;
import java.lang.reflect.Field;
import java.lang.reflect.Method;
import java.lang.reflect.Modifier;
import java.util.ArrayList;
import java.util.Arrays;
import java.util.HashSet;
import java.util.List;
import java.util.Set;
import java.util.TreeSet;

/** The face of the class: the members of the document and no others. */
public final class FaceTests {
    private static final String FACE = """
        appendText(int) IllegalStateException
        truncateText(int) IllegalArgumentException
        load()
        errorCode()
        errorPosition()
        count(int) IllegalArgumentException
        chip(int int) IndexOutOfBoundsException IllegalArgumentException
        chipAt(int int) IndexOutOfBoundsException
        depth(int int) IndexOutOfBoundsException
        account(int) IllegalArgumentException
        colour(int int) IndexOutOfBoundsException
        brightness(int int) IndexOutOfBoundsException
        reflections(int int) IndexOutOfBoundsException
        source(int int boolean) IndexOutOfBoundsException
        images(int int) IndexOutOfBoundsException
        cellsOf(int) IllegalArgumentException
        commonest(int) IllegalArgumentException
        regions(int) IllegalArgumentException
        regionSize(int int) IndexOutOfBoundsException
        edges()
        light()
        symmetries()
        ownMaps()
        mapped(int int int boolean) IndexOutOfBoundsException
        matches(int) IllegalArgumentException IllegalStateException
        add(int int int int int) IndexOutOfBoundsException IllegalArgumentException
        take(int) IndexOutOfBoundsException
        push(int int) IndexOutOfBoundsException
        paint(int int) IndexOutOfBoundsException IllegalArgumentException
        turn(int) IllegalArgumentException
        tick()
        settle()
        cover(int boolean) IndexOutOfBoundsException
        setKeep(int) IllegalArgumentException
        moves()
        restsAt(int boolean) IndexOutOfBoundsException IllegalStateException
        settled(int int) IllegalArgumentException
        bestTurn(int) IllegalArgumentException
        period(int) IllegalArgumentException
        meanBrightness()
        filled()
        write()
        output(int)
        undo()
        save(int) IllegalArgumentException
        restore(int) IllegalArgumentException IllegalStateException
        """;

    private static final Due DUE = new Due();

    public static void main(String[] args) {
        Class<?> face = KaleidoscopeBox.class;
        DUE.is("public final", Modifier.PUBLIC | Modifier.FINAL, face.getModifiers());
        Set<String> due = new TreeSet<>(List.of(FACE.strip().split("\n")));
        Set<String> got = new TreeSet<>();
        Set<String> names = new HashSet<>();
        for (Method m : face.getDeclaredMethods()) {
            if (!Modifier.isPrivate(m.getModifiers())) {
                DUE.is("public alone: " + m, Modifier.PUBLIC, m.getModifiers());
                DUE.is("answer of " + m, 1, answer(m.getName()) == m.getReturnType() ? 1 : 0);
                got.add(told(m));
                names.add(m.getName());
            }
        }
        DUE.is("methods " + got, 1, got.equals(due) ? 1 : 0);
        DUE.is("constructors", 1, face.getDeclaredConstructors().length);
        for (Constructor<?> c : face.getDeclaredConstructors()) {
            DUE.is("constructor " + c, 1, Modifier.isPublic(c.getModifiers()) && c.getParameterCount() == 0 ? 1 : 0);
        }
        for (Class<?> inside : face.getDeclaredClasses()) {
            DUE.is("static " + inside, 1, Modifier.isStatic(inside.getModifiers()) ? 1 : 0);
            DUE.is("not public " + inside, 0, inside.getModifiers() & (Modifier.PUBLIC | Modifier.PROTECTED));
        }
        fields(face);
        hidden(face, names);
        DUE.end("FaceTests");
    }

    private static String told(Method m) {
        List<String> parameters = new ArrayList<>();
        for (Class<?> type : m.getParameterTypes()) {
            parameters.add(type.getName());
        }
        StringBuilder text = new StringBuilder(m.getName() + "(" + String.join(" ", parameters) + ")");
        for (Class<?> exception : m.getExceptionTypes()) {
            text.append(' ').append(exception.getSimpleName());
        }
        return text.toString();
    }

    private static Class<?> answer(String method) {
        return switch (method) {
            case "meanBrightness" -> double.class;
            case "filled" -> float.class;
            case "save", "restore" -> void.class;
            default -> int.class;
        };
    }

    private static void fields(Class<?> face) {
        Set<String> open = new TreeSet<>();
        List<Class<?>> all = new ArrayList<>(Arrays.asList(face.getDeclaredClasses()));
        all.add(face);
        for (Class<?> c : all) {
            for (Field f : c.getDeclaredFields()) {
                boolean isStatic = Modifier.isStatic(f.getModifiers());
                DUE.is("static and not final: " + f, 0, isStatic && !Modifier.isFinal(f.getModifiers()) ? 1 : 0);
                if (c == face && !Modifier.isPrivate(f.getModifiers())) {
                    open.add(f.getName() + " " + f.getType() + " " + Modifier.toString(f.getModifiers()));
                }
            }
        }
        Set<String> due = Set.of("NONE int public static final", "NOWHERE int public static final");
        DUE.is("constants " + open, 1, open.equals(due) ? 1 : 0);
    }

    private static void hidden(Class<?> face, Set<String> names) {
        for (Method m : face.getDeclaredMethods()) {
            boolean clashes = Modifier.isPrivate(m.getModifiers()) && names.contains(m.getName());
            DUE.is("a private method with a public one's name: " + m, 0, clashes ? 1 : 0);
        }
        for (Class<?> inside : face.getDeclaredClasses()) {
            for (Method m : inside.getDeclaredMethods()) {
                DUE.is("a method inside with a public one's name: " + m, 0, names.contains(m.getName()) ? 1 : 0);
            }
        }
    }
}
