import java.io.IOException;
import java.lang.reflect.Modifier;
import java.net.URL;
import java.net.URLClassLoader;
import java.nio.file.Files;
import java.nio.file.Path;
import java.util.ArrayList;
import java.util.Comparator;
import java.util.List;
import java.util.Set;
import java.util.TreeSet;
import java.util.function.Supplier;
import java.util.regex.Matcher;
import java.util.regex.Pattern;
import java.util.stream.Stream;

/** README.md: its examples compile and answer what stands behind them, and no call and no test is left out. */
public final class ReadmeTest {
    private static final Pattern CALL = Pattern.compile("(x\\.\\w+\\(.*?\\)); // (-?\\d+)\\b.*");

    public static void main(String[] args) throws Exception {
        String page = Files.readString(Path.of("README.md"));
        hasAllCalls(page);
        hasAllTests(page);
        Path folder = Files.createTempDirectory("readme");
        try {
            runExamples(page, folder);
        } finally {
            removeAll(folder);
        }
        Check.end("ReadmeTest");
    }

    private static void holds(String what, boolean is) {
        Check.due(what, is ? 1 : 0, 1);
    }

    private static void hasAllCalls(String page) {
        for (var method : StoreStreams.class.getDeclaredMethods()) {
            if (!Modifier.isPublic(method.getModifiers())) continue;
            holds("README.md has " + method.getName() + "()", page.matches("(?s).*\\b" + method.getName() + "\\(.*"));
        }
        for (String constant : List.of("BAD", "FULL", "NONE", "STATE", "NO")) {
            holds("README.md has " + constant, page.contains("`" + constant + "`"));
        }
    }

    private static void hasAllTests(String page) throws IOException {
        Set<String> told = new TreeSet<>();
        Matcher row = Pattern.compile("(?m)^\\| `(\\w+Test)` \\|").matcher(page);
        while (row.find()) told.add(row.group(1));
        Set<String> there = new TreeSet<>();
        try (Stream<Path> files = Files.list(Path.of("src/test/java"))) {
            files.map(file -> file.getFileName().toString()).filter(name -> name.endsWith("Test.java"))
                .forEach(name -> there.add(name.replace(".java", "")));
        }
        holds("README.md tells the tests " + there + ", and not " + told, told.equals(there));
    }

    /** All java blocks of the page are one program; each call with an answer behind it is looked at. */
    private static void runExamples(String page, Path folder) throws Exception {
        StringBuilder program = new StringBuilder("public final class Readme implements java.util.function.Supplier"
            + "<java.util.List<Long>> { public java.util.List<Long> get() { var got = new java.util.ArrayList<Long>();\n");
        List<Matcher> calls = new ArrayList<>();
        for (String line : exampleLines(page)) {
            Matcher call = CALL.matcher(line);
            boolean found = call.matches();
            holds("an answer stands behind " + line, found || !line.startsWith("x."));
            if (found) calls.add(call);
            program.append(found ? "got.add((long) " + call.group(1) + ");" : line).append('\n');
        }
        Path source = Files.writeString(folder.resolve("Readme.java"), program.append("return got; } }\n"));
        // The same javac that .ci/run takes: the machine that runs the tests need not have one of its own inside.
        int built = new ProcessBuilder("javac", "-d", folder.toString(), "-cp", System.getProperty("java.class.path"),
            source.toString()).inheritIO().start().waitFor();
        Check.due("javac of the examples", built, 0);
        List<?> got = built == 0 ? answersOf(folder) : List.of();
        Check.due("how many answers the examples have", got.size(), calls.size());
        for (int k = 0; k < got.size(); k++) {
            Check.due(calls.get(k).group(1), (Long) got.get(k), Long.parseLong(calls.get(k).group(2)));
        }
    }

    private static List<String> exampleLines(String page) {
        List<String> lines = new ArrayList<>();
        Matcher block = Pattern.compile("(?s)\n```java\n(.*?)```").matcher(page);
        while (block.find()) lines.addAll(List.of(block.group(1).split("\n")));
        holds("README.md has examples", !lines.isEmpty());
        return lines;
    }

    private static List<?> answersOf(Path folder) throws Exception {
        try (URLClassLoader loader = new URLClassLoader(new URL[] {folder.toUri().toURL()})) {
            return (List<?>) ((Supplier<?>) loader.loadClass("Readme").getDeclaredConstructor().newInstance()).get();
        }
    }

    private static void removeAll(Path folder) throws IOException {
        try (Stream<Path> files = Files.walk(folder)) {
            for (Path file : files.sorted(Comparator.reverseOrder()).toList()) Files.delete(file);
        }
    }
}
