import java.io.IOException;
import java.lang.reflect.Method;
import java.nio.file.Files;
import java.nio.file.Path;
import java.util.ArrayList;
import java.util.Arrays;
import java.util.Comparator;
import java.util.List;
import java.util.Set;
import java.util.TreeSet;
import java.util.regex.Matcher;
import java.util.regex.Pattern;
import java.util.stream.Stream;

/**
 * What README.md says is tried: its example is compiled and run, and prints what stands behind each call; its commands
 * are run; the tests that it names are those that there are; the calls that tell fractions, and those that answer -1 for
 * arguments out of bounds, are those that it names.
 */
public final class ReadmeTest {
    private static int wrong = 0;
    private static int tried = 0;

    public static void main(String[] args) throws Exception {
        String page = Files.readString(Path.of("README.md"));
        Path room = Files.createTempDirectory("readme");
        try {
            example(page, room);
            commands(page, room);
        } finally {
            remove(room);
        }
        testNames(page);
        fractionCalls(page);
        outOfBounds(page);
        System.out.println("readme: " + tried + " things tried, " + (wrong == 0 ? "all hold" : wrong + " do not hold"));
        if (wrong != 0) {
            System.exit(1);
        }
    }

    private static void hold(boolean holds, String what) {
        tried++;
        if (!holds) {
            wrong++;
            System.out.println("readme: " + what);
        }
    }

    /** The blocks of a language, in their order. */
    private static List<String> blocks(String page, String language) {
        List<String> all = new ArrayList<>();
        Matcher matcher = Pattern.compile("(?ms)^```" + language + "\n(.*?)^```$").matcher(page);
        while (matcher.find()) {
            all.add(matcher.group(1));
        }
        return all;
    }

    private static void example(String page, Path room) throws Exception {
        List<String> programs = blocks(page, "java");
        hold(programs.size() == 1, "there are " + programs.size() + " examples, not one");
        String program = programs.isEmpty() ? "" : programs.get(0);
        Files.writeString(room.resolve("Example.java"), program);
        String command = blocks(page, "sh").stream().filter(block -> block.contains("Example.java")).findFirst().orElse("false");
        List<String> printed = run(command, room).lines().toList();
        List<String> calls = program.lines().filter(line -> line.contains("System.out.println(")).toList();
        hold(calls.size() == printed.size(), "the example prints " + printed.size() + " lines, not " + calls.size() + ": " + printed);
        for (int i = 0; i < Math.min(calls.size(), printed.size()); i++) {
            Matcher answer = Pattern.compile("\\); +// (-?[0-9]+)\\b").matcher(calls.get(i));
            hold(answer.find() && answer.group(1).equals(printed.get(i)), calls.get(i).strip() + " prints " + printed.get(i));
        }
    }

    /** The example's own commands are run with it, and the script of all tests runs this one. */
    private static void commands(String page, Path room) throws Exception {
        hold(Files.isExecutable(Path.of(".ci/run")), ".ci/run can't be run");
        for (String block : blocks(page, "sh")) {
            if (!block.contains(".ci/run") && !block.contains("Example.java")) {
                run(block, room);
            }
        }
    }

    /** What the commands print; where they write to /tmp, they get a room of their own. */
    private static String run(String block, Path room) throws Exception {
        Path heard = room.resolve("heard");
        Process process = new ProcessBuilder("sh", "-e", "-c", block.replace("/tmp/", room + "/"))
            .redirectErrorStream(true).redirectOutput(heard.toFile()).start();
        int code = process.waitFor();
        String text = Files.readString(heard);
        hold(code == 0, "exit code " + code + " of\n" + block + text);
        return text;
    }

    private static void testNames(String page) throws IOException {
        Set<String> named = new TreeSet<>();
        Matcher matcher = Pattern.compile("`([A-Z][A-Za-z]*(Test|Edges))`").matcher(page);
        while (matcher.find()) {
            named.add(matcher.group(1));
        }
        Set<String> there = new TreeSet<>();
        try (Stream<Path> files = Files.list(Path.of("src/test/java"))) {
            files.map(file -> file.getFileName().toString()).filter(name -> name.matches(".+(Test|Edges)\\.java"))
                .forEach(name -> there.add(name.replace(".java", "")));
        }
        hold(named.equals(there), "the tests are " + there + ", named are " + named);
    }

    private static void fractionCalls(String page) {
        Set<String> there = new TreeSet<>();
        for (Method method : face()) {
            if (method.getReturnType() == long.class) {
                there.add(method.getName());
            }
        }
        Set<String> named = namesIn(page, "### A fraction", "###");
        named.remove("what");
        hold(named.equals(there), "calls that tell fractions are " + there + ", named are " + named);
    }

    /** Each call with arguments, all below 0; feed() takes any. */
    private static void outOfBounds(String page) throws Exception {
        Set<String> there = new TreeSet<>();
        for (Method method : face()) {
            if (method.getParameterCount() > 0 && !method.getName().equals("feed")) {
                Object[] arguments = new Object[method.getParameterCount()];
                Arrays.fill(arguments, -7);
                long answer = ((Number) method.invoke(new SupplyGrid(), arguments)).longValue();
                long due = method.getName().equals("through") ? Long.MIN_VALUE : -2;
                hold(answer == -1 || answer == due, method.getName() + " answers " + answer);
                if (answer == -1) {
                    there.add(method.getName());
                }
            }
        }
        Set<String> named = namesIn(page, "`end`, `fault`", "answer -1 where");
        hold(named.equals(there), "calls that answer -1 are " + there + ", named are " + named);
    }

    private static List<Method> face() {
        return Stream.of(SupplyGrid.class.getMethods()).filter(method -> method.getDeclaringClass() == SupplyGrid.class).toList();
    }

    /** The names in small letters that the page has from some words on, up to others. */
    private static Set<String> namesIn(String page, String from, String upTo) {
        Set<String> names = new TreeSet<>();
        int start = page.indexOf(from);
        int stop = page.indexOf(upTo, start + from.length());
        hold(start >= 0 && stop >= 0, "no part from " + from + " up to " + upTo);
        if (start >= 0 && stop >= 0) {
            Matcher matcher = Pattern.compile("`([a-z]+)`").matcher(page.substring(start, stop));
            while (matcher.find()) {
                names.add(matcher.group(1));
            }
        }
        return names;
    }

    private static void remove(Path room) throws IOException {
        try (Stream<Path> files = Files.walk(room)) {
            for (Path file : files.sorted(Comparator.reverseOrder()).toList()) {
                Files.delete(file);
            }
        }
    }
}
