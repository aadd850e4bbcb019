import java.io.IOException;
import java.lang.reflect.Array;
import java.lang.reflect.Field;
import java.lang.reflect.Method;
import java.lang.reflect.Modifier;
import java.nio.charset.StandardCharsets;
import java.nio.file.Files;
import java.nio.file.Path;
import java.util.ArrayList;
import java.util.Collections;
import java.util.Comparator;
import java.util.IdentityHashMap;
import java.util.List;
import java.util.Set;
import java.util.TreeSet;
import java.util.regex.Matcher;
import java.util.regex.Pattern;
import java.util.stream.Stream;

/** What README.md says is so: its example, its commands, its names, its numbers and its table of tests. */
public final class ReadmeTest {
    private static final Path TESTS = Path.of("src/test/java");
    private static final int CALLS = 512;

    private final List<String> lines;
    private final String text;

    private ReadmeTest() throws IOException {
        lines = Files.readAllLines(Path.of("README.md"));
        text = String.join(" ", prose());
    }

    public static void main(String[] args) throws IOException, InterruptedException {
        ReadmeTest test = new ReadmeTest();
        test.headings();
        test.commands();
        test.names();
        test.filesExist();
        test.tableOfTests();
        test.room();
        test.calls();
        Checks.end("ReadmeTest");
    }

    private void headings() {
        for (String heading : new String[] {"What an object is for", "A short example",
            "How long an object is good for", "How to run the tests"}) {
            Checks.due("README.md tells: " + heading, lines.contains("## " + heading), true);
        }
    }

    /** The lines of the first block that begins with these signs. */
    private List<String> block(String begin) {
        int from = lines.indexOf(begin) + 1;
        int to = from;
        while (to < lines.size() && !lines.get(to).equals("```")) {
            to++;
        }
        Checks.due("README.md has a block " + begin, from > 0 && to < lines.size() && to > from, true);
        return from > 0 ? lines.subList(from, to) : List.of();
    }

    /** The lines outside the blocks. */
    private List<String> prose() {
        List<String> found = new ArrayList<>();
        boolean inBlock = false;
        for (String line : lines) {
            boolean isFence = line.startsWith("```");
            inBlock ^= isFence;
            if (!inBlock && !isFence) {
                found.add(line);
            }
        }
        return found;
    }

    /** The indented ones are commands for a shell. */
    private List<String> shellLines() {
        List<String> found = new ArrayList<>();
        for (String line : prose()) {
            if (line.startsWith("    ")) {
                found.add(line.strip());
            }
        }
        return found;
    }

    /** All commands but .ci/run, which runs this test, are run in a copy of the sources. */
    private void commands() throws IOException, InterruptedException {
        Path place = Files.createTempDirectory("readme");
        try {
            copySources(place);
            Files.write(place.resolve("Example.java"), block("```java"));
            List<String> commands = shellLines();
            Checks.due("README.md tells of .ci/run", commands.remove(".ci/run"), true);
            Checks.due("there is .ci/run", Files.isExecutable(Path.of(".ci/run")), true);
            for (String command : commands) {
                String printed = run(command, place);
                if (command.equals("java -cp out Example")) {
                    Checks.same("the example", printed, String.join("\n", block("```text")));
                } else if (command.startsWith("java ")) {
                    Checks.due(command + " says that all is as due: " + printed, printed.endsWith(", 0 not as due"), true);
                }
            }
            Checks.due("the example is run", commands.contains("java -cp out Example"), true);
        } finally {
            delete(place);
        }
    }

    private static void copySources(Path place) throws IOException {
        for (String directory : new String[] {"src/main/java", "src/test/java"}) {
            Files.createDirectories(place.resolve(directory));
            try (Stream<Path> files = Files.list(Path.of(directory))) {
                for (Path file : (Iterable<Path>) files::iterator) {
                    Files.copy(file, place.resolve(file));
                }
            }
        }
    }

    private static void delete(Path place) throws IOException {
        try (Stream<Path> files = Files.walk(place)) {
            for (Path file : (Iterable<Path>) files.sorted(Comparator.reverseOrder())::iterator) {
                Files.delete(file);
            }
        }
    }

    private static String run(String command, Path place) throws IOException, InterruptedException {
        Process process = new ProcessBuilder(command.split(" ")).directory(place.toFile())
            .redirectErrorStream(true).start();
        String printed = new String(process.getInputStream().readAllBytes(), StandardCharsets.US_ASCII);
        Checks.due(command + " ends with " + printed, process.waitFor(), 0);
        return printed.strip().replace("\r", "");
    }

    /** The texts between two backquotes. */
    private static Set<String> quoted(String source) {
        Set<String> found = new TreeSet<>();
        Matcher matcher = Pattern.compile("`([^`]+)`").matcher(source);
        while (matcher.find()) {
            found.add(matcher.group(1));
        }
        return found;
    }

    /** Each call of the class is named, and no other one. */
    private void names() {
        Set<String> face = new TreeSet<>();
        for (Method method : BarcodeEngine.class.getDeclaredMethods()) {
            if (Modifier.isPublic(method.getModifiers())) {
                face.add(method.getName());
            }
        }
        Set<String> told = new TreeSet<>();
        for (String name : quoted(text)) {
            if (name.matches("[a-z][A-Za-z]*") && !name.matches("javac?")) {
                told.add(name);
            }
        }
        Checks.same("the calls that README.md names", String.join(" ", told), String.join(" ", face));
        Checks.due("README.md tells NONE", text.contains("`BarcodeEngine.NONE` (" + BarcodeEngine.NONE + ")"), true);
    }

    private void filesExist() {
        for (String name : quoted(text)) {
            if (name.contains("/") && !name.startsWith("../") && !name.contains("*")) {
                Checks.due("there is " + name, Files.exists(Path.of(name)), true);
            }
        }
    }

    private void tableOfTests() throws IOException {
        Set<String> told = new TreeSet<>();
        for (String line : lines) {
            if (line.startsWith("| `")) {
                told.addAll(quoted(line.substring(0, line.indexOf(" |", 1))));
            }
        }
        Set<String> there = new TreeSet<>();
        try (Stream<Path> files = Files.list(TESTS)) {
            for (Path file : (Iterable<Path>) files::iterator) {
                String name = file.getFileName().toString();
                if (name.endsWith("Test.java")) {
                    there.add(name.substring(0, name.length() - ".java".length()));
                }
            }
        }
        Checks.same("the table of tests", String.join(" ", told), String.join(" ", there));
    }

    /** The objects and arrays that are held by an engine, and itself. */
    private void room() {
        Set<Object> found = Collections.newSetFromMap(new IdentityHashMap<>());
        List<Object> open = new ArrayList<>();
        open.add(new BarcodeEngine());
        while (!open.isEmpty()) {
            Object next = open.remove(open.size() - 1);
            if (next != null && found.add(next)) {
                addHeld(next, open);
            }
        }
        Checks.due("README.md tells the room: " + found.size(),
            text.contains("(" + found.size() + " objects and arrays)"), true);
    }

    private static void addHeld(Object holder, List<Object> open) {
        if (holder.getClass().isArray()) {
            for (int i = 0; i < Array.getLength(holder) && !holder.getClass().getComponentType().isPrimitive(); i++) {
                open.add(Array.get(holder, i));
            }
            return;
        }
        for (Class<?> c = holder.getClass(); c != Object.class; c = c.getSuperclass()) {
            for (Field field : c.getDeclaredFields()) {
                if (!Modifier.isStatic(field.getModifiers()) && !field.getType().isPrimitive()) {
                    field.setAccessible(true);
                    try {
                        open.add(field.get(holder));
                    } catch (IllegalAccessException e) {
                        Checks.due("the field " + field + " can be looked at", false, true);
                    }
                }
            }
        }
    }

    /** The last of the calls is answered like the first one, and refused calls count. */
    private void calls() {
        Checks.due("README.md tells the number of calls", text.contains("For " + CALLS + " calls after"), true);
        BarcodeEngine x = new BarcodeEngine();
        Checks.put(x, "12345670");
        x.print(0, 8, 10, 0, 0);
        for (int call = 3; call < CALLS; call++) {
            if (call % 2 == 0) {
                Checks.index("call " + call, () -> x.read(1, 0));
            } else {
                x.reverse(0);
            }
        }
        Checks.due("call " + CALLS, x.isReversed(0, 0), true);
    }
}
