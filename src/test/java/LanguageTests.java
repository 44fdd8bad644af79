import java.io.IOException;
import java.lang.reflect.Executable;
import java.lang.reflect.Field;
import java.lang.reflect.Modifier;
import java.nio.charset.StandardCharsets;
import java.nio.file.Files;
import java.nio.file.Path;
import java.util.ArrayList;
import java.util.List;
import java.util.regex.Matcher;
import java.util.regex.Pattern;

/** The class keeps to the rules of LANGUAGE.md, as far as they can be seen in its text and members. */
public final class LanguageTests {
    private static final Path CLASS = Path.of("src/main/java/KaleidoscopeBox.java");
    private static final String TYPES = "int|long|short|byte|char|boolean|double|float|\\[{1,2}[IJSBCZDF]"
        + "|java\\.lang\\.String|(\\[L)?KaleidoscopeBox.*";
    private static final String EXCEPTIONS = "IllegalStateException|IllegalArgumentException|IndexOutOfBoundsException";

    private static final Due DUE = new Due();

    public static void main(String[] args) throws IOException {
        String text = Files.readString(CLASS, StandardCharsets.US_ASCII);
        String code = text.replaceAll("(?s)/\\*.*?\\*/|//[^\n]*|\"[^\"\n]*\"", "");
        hasNone(code, "a package", "(?m)^package");
        hasNone(code, "rule 4, another library", "import (?!java\\.util\\.Arrays;)|\\bjava\\.(?!util\\.Arrays;)");
        hasNone(code, "rule 4, another function",
            "\\b(System\\.(?!arraycopy)|Arrays\\.(?!fill)|Math\\.(?!(max|min|abs)\\()|Integer|Long|Thread|List)\\b");
        hasNone(code, "rules 2 and 6, a word", "\\b(synchronized|assert|finally|try|catch|native|volatile)\\b");
        hasNone(code, "rule 2, a lambda or a method reference", "->|::");
        hasNone(code, "rule 5, a static block", "static\\s*\\{");
        hasNone(code, "rule 6, another exception", "throw (?!new (" + EXCEPTIONS + ")\\(\\);)");
        hasNone(code, "rule 9, a loop without an end", "for \\(;|for \\([^;]*;\\s*;|while \\(true\\)");
        hasNone(code, "rule 12, an object made behind the constructor",
            "(?m)^(?!.*(throw new | final \\S+ \\S+ = new |\\[i\\] = new State\\(\\);)).*\\bnew .*$");
        List<Class<?>> classes = new ArrayList<>(List.of(KaleidoscopeBox.class.getDeclaredClasses()));
        DUE.is("rule 11, at most twelve classes", 1, classes.size() < 12 ? 1 : 0);
        classes.add(KaleidoscopeBox.class);
        classes.forEach(LanguageTests::members);
        lengths(text);
        DUE.end("LanguageTests");
    }

    private static void hasNone(String code, String what, String pattern) {
        Matcher found = Pattern.compile(pattern).matcher(code);
        boolean isThere = found.find();
        String where = isThere ? code.substring(found.start(), Math.min(found.end() + 30, code.length())) : "";
        DUE.is(what + ": " + where, 0, isThere ? 1 : 0);
    }

    private static void members(Class<?> kind) {
        int fields = 0;
        for (Field field : kind.getDeclaredFields()) {
            DUE.is("rule 3, the type of " + field, 1, field.getType().getName().matches(TYPES) ? 1 : 0);
            boolean isStatic = Modifier.isStatic(field.getModifiers());
            DUE.is("rule 5, final if static: " + field, 1, !isStatic || Modifier.isFinal(field.getModifiers()) ? 1 : 0);
            fields += isStatic ? 0 : 1;
        }
        DUE.is("rule 11, at most twenty fields in " + kind, 1, fields <= 20 ? 1 : 0);
        List<Executable> calls = new ArrayList<>(List.of(kind.getDeclaredMethods()));
        calls.addAll(List.of(kind.getDeclaredConstructors()));
        for (Executable call : calls) {
            DUE.is("rule 11, at most seven parameters: " + call, 1, call.getParameterCount() <= 7 ? 1 : 0);
            DUE.is("rule 2, written by hand: " + call, 0, call.isSynthetic() ? 1 : 0);
        }
    }

    /** A method begins in a line that opens a brace, one or two steps in, and ends where one closes there. */
    private static void lengths(String text) {
        String[] lines = text.split("\n");
        int start = 0;
        for (int i = 0; i < lines.length; i++) {
            if (lines[i].matches(" {4}( {4})?\\S.*\\)( throws .*)? \\{")) {
                start = i;
            } else if (lines[i].matches(" {4}( {4})?\\}")) {
                boolean isShort = i - start < 60 || lines[start].isBlank();
                DUE.is("rule 11, at most sixty lines: " + lines[start].strip(), 1, isShort ? 1 : 0);
            }
        }
    }
}
