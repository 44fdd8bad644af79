import java.io.IOException;
import java.lang.reflect.Modifier;
import java.nio.charset.StandardCharsets;
import java.nio.file.FileVisitResult;
import java.nio.file.Files;
import java.nio.file.Path;
import java.nio.file.SimpleFileVisitor;
import java.nio.file.attribute.BasicFileAttributes;
import java.util.ArrayList;
import java.util.Arrays;
import java.util.List;
import java.util.regex.Matcher;
import java.util.regex.Pattern;

/** README.md is so: its quotes stand in the document, its commands work, its examples answer what they tell. */
public final class ReadmeTests {
    private static final Path PAGE = Path.of("README.md");
    private static final Path SHARED = Path.of("../shared");
    private static final Path CLASS = Path.of("src/main/java/KaleidoscopeBox.java");
    // The line that a block follows, the kind of the block, what stands in it.
    private static final Pattern BLOCK = Pattern.compile("([^\n]*)\n\n```([a-z]+)\n(.*?)```\n", Pattern.DOTALL);
    private static final Pattern FILE = Pattern.compile("`(build/[A-Za-z]+\\.java)`");
    private static final Pattern ANSWER = Pattern.compile("(box\\.[^;]*);\\s+// (throws [A-Za-z]+|-?[0-9.]+)(: .*)?");
    // The tests run in this one: it would never end.
    private static final String ALL_TESTS = ".ci/run\n";

    private static final Due DUE = new Due();

    private record Block(String ahead, String kind, String text) {
    }

    public static void main(String[] args) throws IOException, InterruptedException {
        String page = Files.readString(PAGE, StandardCharsets.US_ASCII);
        if (Files.exists(SHARED.resolve("DOC.md"))) {
            quotes(page, Files.readString(SHARED.resolve("DOC.md"), StandardCharsets.US_ASCII));
        } else {
            System.out.println("ReadmeTests: there is no " + SHARED.resolve("DOC.md") + " to hold the page against");
        }
        signatures(page);
        reasons(page);
        tests(page);
        Path copy = Files.createTempDirectory("readme");
        try {
            follow(blocks(page), copied(copy));
        } finally {
            delete(copy);
        }
        DUE.end("ReadmeTests");
    }

    // ---- the document's words

    private static void quotes(String page, String document) {
        isIn("the opening", plain(part(document, "## What it is", "An object is used")), plain(page));
        isIn("the calls of one object", plain(part(document, "An object is used", "## The public face")), plain(page));
        String created = part(document, "## Promise 1:", "## Promise 2:").replaceFirst("(?s).*`: ", "");
        isIn("a new object", plain(created), plain(section(page, "## A new object")));
        for (String sentence : plain(part(document, "A method that throws", "The constants:")).split("(?<=\\.) ")) {
            String words = sentence.replace(".", "");
            isIn("how calls are made", words, plain(section(page, "## How calls are made")));
        }
        same("Words", plain(part(document, "## Terms", "The constants:")), plain(section(page, "## Words")));
        String promises = part(document, "## Promise 1:", "## Not promised")
            .replaceAll("(?m)^(`[^`]*\\)[^`]*`): *", "$1 ");
        String calls = part(page, "## Calls", null).replaceAll("(- `[^`]*\\)[^`]*`):", "$1")
            .replace("Below each call stand its parameters, what it returns and what it throws.", "");
        same("Calls", plain(promises), plain(calls));
    }

    /** The part behind one text up to another one, or to the end. */
    private static String part(String text, String from, String to) {
        int start = text.indexOf("\n" + from) + 1;
        int end = to == null ? text.length() : text.indexOf("\n" + to, start);
        if (start == 0 || end < 0) {
            DUE.is("there is a part from \"" + from + "\" to \"" + to + "\"", 1, 0);
            return "";
        }
        return text.substring(from.startsWith("#") && !from.endsWith(":") ? start + from.length() : start, end);
    }

    private static String section(String page, String heading) {
        return part(page, heading, "## ");
    }

    /** Without headings (in the document: capitals alone), marks of lists and ends of lines. */
    private static String plain(String text) {
        StringBuilder plain = new StringBuilder();
        for (String line : text.split("\n")) {
            String inside = line.strip();
            if (!inside.startsWith("#") && !inside.matches("[A-Z][A-Z ]+")) {
                plain.append(inside.startsWith("- ") ? inside.substring(2) : inside).append(' ');
            }
        }
        return plain.toString().replaceAll(" - `", " `").replaceAll("\\s+", " ").strip();
    }

    private static void isIn(String label, String quote, String text) {
        DUE.is(label + ": \"" + quote + "\"", 1, !quote.isEmpty() && text.contains(quote) ? 1 : 0);
    }

    private static void same(String label, String want, String got) {
        int at = 0;
        while (at < Math.min(want.length(), got.length()) && want.charAt(at) == got.charAt(at)) {
            at++;
        }
        boolean isSame = !want.isEmpty() && want.equals(got);
        DUE.is(label + " are the document's; not so: \"" + from(got, at) + "\", but \"" + from(want, at) + "\"",
            1, isSame ? 1 : 0);
    }

    private static String from(String text, int at) {
        return text.substring(at, Math.min(at + 60, text.length()));
    }

    private static void signatures(String page) throws IOException {
        String source = Files.readString(CLASS, StandardCharsets.US_ASCII).replaceAll("\\s+", " ");
        Matcher signature = Pattern.compile("(?m)^- `([^`]*\\)[^`]*)`").matcher(part(page, "## Calls", null));
        int told = 0;
        while (signature.find()) {
            told++;
            isIn("a call", "public " + signature.group(1).replaceAll("\\s+", " ") + " {", source);
        }
        long methods = Arrays.stream(KaleidoscopeBox.class.getDeclaredMethods())
            .filter(method -> Modifier.isPublic(method.getModifiers())).count();
        DUE.is("the calls on the page", methods + KaleidoscopeBox.class.getConstructors().length, told);
        isIn("NONE", "`KaleidoscopeBox.NONE` (" + KaleidoscopeBox.NONE + ")", page);
        isIn("NOWHERE", "`KaleidoscopeBox.NOWHERE` (" + KaleidoscopeBox.NOWHERE + ")", page);
    }

    /** Each reason of the table stands at its acts, and the table has all of them. */
    private static void reasons(String page) {
        String calls = plain(part(page, "## Calls", null));
        Matcher row = Pattern.compile("(?m)^ *\\| ([1-5]) \\| ([^|]*) \\| ([^|]*) \\|$").matcher(page);
        int told = 0;
        while (row.find()) {
            for (String act : row.group(3).split(", ")) {
                told++;
                int start = Math.max(calls.indexOf("`int " + act.replace("`", "") + "("), 0);
                String call = calls.substring(start, Math.max(calls.indexOf(" `int ", start), start));
                isIn(act, row.group(1) + " " + row.group(2), call);
            }
        }
        Matcher listed = Pattern.compile("minus the reason: [^.]*").matcher(calls);
        int due = 0;
        while (listed.find()) {
            due += listed.group().split(";").length;
        }
        DUE.is("the reasons in the table", due, told);
    }

    private static void tests(String page) throws IOException {
        try (var files = Files.list(Path.of("src/test/java"))) {
            files.map(file -> file.getFileName().toString().replace(".java", ""))
                .filter(name -> name.endsWith("Tests") || name.endsWith("Sentences") && !name.equals("Sentences"))
                .forEach(name -> isIn("a test", "`" + name + "`", section(page, "## Tests")));
        }
    }

    // ---- what the page tells to do

    private static List<Block> blocks(String page) {
        List<Block> blocks = new ArrayList<>();
        Matcher block = BLOCK.matcher(part(page, "## A first program", "## Words"));
        while (block.find()) {
            blocks.add(new Block(block.group(1), block.group(2), block.group(3)));
        }
        return blocks;
    }

    private static void follow(List<Block> blocks, Path root) throws IOException, InterruptedException {
        String printed = "";
        int examples = 0;
        int commands = 0;
        Files.createDirectory(root.resolve("build"));
        for (Block block : blocks) {
            Matcher file = FILE.matcher(block.ahead);
            if (block.kind.equals("text")) {
                boolean isSame = printed.equals(block.text);
                DUE.is("it prints\n" + printed + "and on the page\n" + block.text, 1, isSame ? 1 : 0);
            } else if (block.kind.equals("sh") && !block.text.equals(ALL_TESTS)) {
                printed = run(block.text, root);
                commands++;
            } else if (block.kind.equals("java") && file.find()) {
                Files.writeString(root.resolve(file.group(1)), block.text);
            } else if (block.kind.equals("java")) {
                examples++;
                example("Example" + examples, block.text, root);
            }
        }
        DUE.is("examples and commands", 1, examples >= 3 && commands >= 3 ? 1 : 0);
    }

    /** An example as a program that prints what each call answers, in a row with what it should. */
    private static void example(String name, String text, Path root) throws IOException, InterruptedException {
        StringBuilder program = new StringBuilder("class " + name + " { public static void main(String[] args) {\n");
        int due = 0;
        for (String line : text.split("\n")) {
            Matcher answer = ANSWER.matcher(line);
            if (answer.matches()) {
                due++;
                program.append(printing(answer.group(1), answer.group(2)));
            } else {
                program.append(line).append('\n');
            }
        }
        program.append("}}\n");
        Files.writeString(root.resolve("build/" + name + ".java"), program);
        String printed = run("javac -d build -cp build build/" + name + ".java\njava -cp build " + name, root);
        int told = 0;
        for (String line : printed.split("\n")) {
            String[] parts = line.split("\t");
            DUE.is(name + ": " + line.replace('\t', ' '), 1, parts.length == 3 && parts[1].equals(parts[2]) ? 1 : 0);
            told++;
        }
        DUE.is(name + ": answers", due, told);
    }

    private static String printing(String call, String want) {
        String row = "System.out.println(\"" + call.replace("\"", "'") + "\\t" + want + "\\t\" + ";
        if (want.startsWith("throws ")) {
            return "try { " + call + "; " + row + "\"no throw\"); } catch (RuntimeException e) { " + row
                + "\"throws \" + e.getClass().getSimpleName()); }\n";
        }
        return row + call + ");\n";
    }

    private static String run(String commands, Path root) throws IOException, InterruptedException {
        Path out = root.resolve("printed");
        Process process = new ProcessBuilder("sh", "-e", "-c", commands).directory(root.toFile())
            .redirectError(ProcessBuilder.Redirect.INHERIT).redirectOutput(out.toFile()).start();
        int code = process.waitFor();
        String printed = Files.readString(out, StandardCharsets.UTF_8);
        DUE.is("\n" + commands + "\n" + printed + "ended with exit code " + code + "; this", 0, code);
        return printed;
    }

    /** A copy of the project's programs, so that the commands leave nothing behind. */
    private static Path copied(Path folder) throws IOException {
        Path root = folder.resolve("main");
        Files.createSymbolicLink(folder.resolve("shared"), SHARED.toRealPath());
        try (var files = Files.walk(Path.of("src"))) {
            for (Path file : files.toList()) {
                Files.createDirectories(root.resolve(file).getParent());
                Files.copy(file, root.resolve(file));
            }
        }
        return root;
    }

    private static void delete(Path folder) throws IOException {
        Files.walkFileTree(folder, new SimpleFileVisitor<>() {
            @Override
            public FileVisitResult visitFile(Path file, BasicFileAttributes attributes) throws IOException {
                Files.delete(file);
                return FileVisitResult.CONTINUE;
            }

            @Override
            public FileVisitResult postVisitDirectory(Path visited, IOException e) throws IOException {
                Files.delete(visited);
                return FileVisitResult.CONTINUE;
            }
        });
    }
}
