import java.io.PrintWriter;
import java.io.StringWriter;
import java.lang.management.ManagementFactory;
import java.lang.reflect.Field;
import java.lang.reflect.Method;
import java.lang.reflect.Modifier;
import java.nio.file.Files;
import java.nio.file.Path;
import java.util.ArrayList;
import java.util.List;
import java.util.Map;
import java.util.Set;
import java.util.TreeMap;
import java.util.TreeSet;
import java.util.regex.Matcher;
import java.util.regex.Pattern;
import java.util.spi.ToolProvider;

/**
 * What of ../shared/LANGUAGE.md a test can see: the face is the document's, words that are ruled out do not stand in
 * the file, sizes of methods and classes; calls make no objects; calls answer, whatever the arguments, in any state.
 */
public final class LanguageTest {
    private static int wrong = 0;

    public static void main(String[] args) throws Exception {
        String source = Files.readString(Path.of("src/main/java/SupplyGrid.java"));
        String code = source.replaceAll("(?s)/\\*.*?\\*/", " ").replaceAll("//[^\n]*", " ").replaceAll("\"[^\"\n]*\"", "\"\"");
        words(code);
        face(Files.readString(Path.of("../shared/DOC.md")));
        classes();
        types();
        methodLengths(source);
        openCalls();
        oddArguments();
        room();
        System.out.println(wrong == 0 ? "language: all rules seen to" : "language: " + wrong + " rules broken");
        if (wrong != 0) {
            System.exit(1);
        }
    }

    private static void rule(boolean kept, String what) {
        if (!kept) {
            wrong++;
            System.out.println("language: " + what);
        }
    }

    private static void words(String code) {
        for (String word : List.of("throw", "throws", "try", "catch", "synchronized", "assert", "protected", "package", "var", "volatile",
            "native", "strictfp", "Object", "System.out", "Random", "Thread", "hashCode", "toString", "getClass", "lambda", "yield", "sealed")) {
            rule(!Pattern.compile("\\b" + Pattern.quote(word) + "\\b").matcher(code).find(), "the word " + word);
        }
        rule(!code.contains("->"), "a lambda or an arrow");
        rule(!code.contains("::"), "a method reference");
        rule(!code.contains("Exact("), "a function that throws");
        rule(!code.contains("@"), "an annotation");
        rule(!Pattern.compile("\\bstatic\\s*\\{").matcher(code).find(), "a static block");
        rule(!Pattern.compile("while\\s*\\(true\\)|for\\s*\\(;;").matcher(code).find(), "a loop without an end");
        Matcher imports = Pattern.compile("import ([^;]*);").matcher(code);
        while (imports.find()) {
            rule(Set.of("java.util.Arrays", "java.util.ArrayList", "java.util.List").contains(imports.group(1)), "import " + imports.group(1));
        }
        Matcher library = Pattern.compile("\\b(Arrays|System|Math|Integer|Long|String|StringBuilder)\\.([a-zA-Z_]+)").matcher(code);
        Set<String> allowed = Set.of("Arrays.fill", "System.arraycopy", "Math.min", "Math.max", "Math.abs", "Integer.bitCount");
        while (library.find()) {
            rule(allowed.contains(library.group()), "the library's " + library.group());
        }
        rule(code.chars().allMatch(sign -> sign < 128), "a sign above 127");
    }

    private static void face(String document) {
        String block = document.substring(document.indexOf("```java"), document.indexOf("```", document.indexOf("```java") + 7));
        Set<String> due = new TreeSet<>();
        Matcher matcher = Pattern.compile("public (int|long) ([a-z]+)\\(([^)]*)\\);").matcher(block);
        while (matcher.find()) {
            long parameters = matcher.group(3).isBlank() ? 0 : matcher.group(3).split(",").length;
            due.add(matcher.group(1) + " " + matcher.group(2) + " " + parameters);
        }
        Set<String> have = new TreeSet<>();
        Set<String> names = new TreeSet<>();
        for (Method method : SupplyGrid.class.getDeclaredMethods()) {
            if (Modifier.isPublic(method.getModifiers())) {
                have.add(method.getReturnType() + " " + method.getName() + " " + method.getParameterCount());
                names.add(method.getName());
            } else {
                rule(Modifier.isPrivate(method.getModifiers()) || method.isSynthetic(), "not private: " + method);
            }
        }
        rule(due.size() == 65 && due.equals(have), "the face is not the document's: " + have);
        for (Field field : SupplyGrid.class.getDeclaredFields()) {
            rule(Modifier.isPrivate(field.getModifiers()) || field.getName().equals("NONE"), "not private: " + field);
        }
        List<Class<?>> all = new ArrayList<>(List.of(SupplyGrid.class.getDeclaredClasses()));
        all.add(SupplyGrid.class);
        for (Class<?> type : all) {
            for (Method method : type.getDeclaredMethods()) {
                boolean open = type == SupplyGrid.class && Modifier.isPublic(method.getModifiers());
                rule(open || !names.contains(method.getName()), "a name of the face again: " + method);
            }
        }
        rule(SupplyGrid.NONE == -1, "NONE");
        rule(SupplyGrid.class.getDeclaredConstructors().length == 1, "constructors");
        rule(Modifier.isFinal(SupplyGrid.class.getModifiers()), "the class is not final");
    }

    private static void classes() {
        List<Class<?>> all = new ArrayList<>(List.of(SupplyGrid.class.getDeclaredClasses()));
        all.add(SupplyGrid.class);
        rule(all.size() <= 12, "classes: " + all.size());
        for (Class<?> type : all) {
            rule(type == SupplyGrid.class || Modifier.isStatic(type.getModifiers()), "not static: " + type);
            int fields = 0;
            for (Field field : type.getDeclaredFields()) {
                boolean constant = Modifier.isStatic(field.getModifiers());
                rule(!constant || Modifier.isFinal(field.getModifiers()), "a static that is not final: " + field);
                fields += constant ? 0 : 1;
            }
            rule(fields <= 20, type + " has fields: " + fields);
            for (Method method : type.getDeclaredMethods()) {
                rule(method.getParameterCount() <= 7, "parameters: " + method);
            }
        }
    }

    private static void types() {
        Set<Class<?>> own = Set.of(SupplyGrid.class.getDeclaredClasses());
        List<Class<?>> all = new ArrayList<>(own);
        all.add(SupplyGrid.class);
        for (Class<?> type : all) {
            for (Field field : type.getDeclaredFields()) {
                Class<?> kind = field.getType();
                boolean row = kind.isArray() && (kind.getComponentType().isPrimitive() || own.contains(kind.getComponentType()));
                boolean rows = kind == int[][].class || kind == long[][].class;
                boolean plain = kind.isPrimitive() || kind == String.class;
                boolean fixed = plain || Set.of(int[].class, long[].class, char[].class, byte[].class).contains(kind);
                rule(fixed || !Modifier.isStatic(field.getModifiers()), "a static that is no constant: " + field);
                rule(plain || row || rows || own.contains(kind), "the type of " + field);
            }
        }
    }

    /** Which method calls which, as the compiled class has it: calls go at most eight deep, none comes back to itself. */
    private static void openCalls() throws Exception {
        Map<String, Set<String>> calls = new TreeMap<>();
        List<Class<?>> all = new ArrayList<>(List.of(SupplyGrid.class.getDeclaredClasses()));
        all.add(SupplyGrid.class);
        String folder = Path.of(SupplyGrid.class.getProtectionDomain().getCodeSource().getLocation().toURI()).toString();
        for (Class<?> type : all) {
            StringWriter code = new StringWriter();
            PrintWriter printer = new PrintWriter(code);
            ToolProvider.findFirst("javap").orElseThrow().run(printer, printer, "-p", "-c", "-cp", folder, type.getName());
            noteCalls(code.toString(), type.getName(), calls);
        }
        rule(calls.size() > 100, "calls are not seen: " + calls.keySet());
        for (String method : calls.keySet()) {
            rule(depth(method, calls, 0) <= 8, "calls go deep from " + method);
        }
    }

    private static void noteCalls(String code, String type, Map<String, Set<String>> calls) {
        String method = "";
        for (String line : code.split("\n")) {
            Matcher head = Pattern.compile("^  [a-z].*?([A-Za-z0-9_$]+)\\(.*\\);$").matcher(line);
            Matcher call = Pattern.compile("// Method (?:([A-Za-z0-9_$/]+)\\.)?\"?([A-Za-z0-9_<>]+)\"?:").matcher(line);
            if (line.equals("  static {};")) {
                // Rows written out in a constant's initialiser.
                method = type + ".<init>";
            } else if (head.matches() || line.matches("^  [A-Z].*\\);$")) {
                String name = head.matches() ? head.group(1) : type;
                method = type + "." + (name.equals(type) ? "<init>" : name);
                calls.put(method, new TreeSet<>());
            } else if (call.find() && !method.isEmpty()) {
                calls.get(method).add((call.group(1) == null ? type : call.group(1)) + "." + call.group(2));
            }
            boolean makes = line.matches(".*: (new|newarray|anewarray|multianewarray) .*");
            rule(!makes || method.endsWith(".<init>"), "an object is made in " + method);
        }
    }

    /** How many calls stand open at once; far too many where one comes back to itself. */
    private static int depth(String method, Map<String, Set<String>> calls, int above) {
        if (above > 50) {
            return 1000;
        }
        int deepest = 0;
        for (String next : calls.getOrDefault(method, Set.of())) {
            deepest = Math.max(deepest, depth(next, calls, above + 1));
        }
        return deepest + 1;
    }

    private static void methodLengths(String source) {
        String[] lines = source.split("\n");
        int start = -1;
        String close = "";
        for (int i = 0; i < lines.length; i++) {
            Matcher head = Pattern.compile("^( +)[a-zA-Z].*\\) \\{$").matcher(lines[i]);
            boolean control = lines[i].matches("^ +(if|for|while|switch|\\} else).*");
            if (start < 0 && head.matches() && !control) {
                start = i;
                close = head.group(1) + "}";
            } else if (start >= 0 && lines[i].equals(close)) {
                rule(i - start <= 60, "a long method at line " + (start + 1));
                start = -1;
            }
        }
    }

    private static final String[] TEXTS = {
        "",
        "grid columns 1 rows 1 width 4 limit 0 wear 1;",
        "grid columns 3 rows 3 width 4 limit 999 wear 1; load at 0 0 draws 99; load at 2 2 draws 99;",
        "grid columns 3 rows 3 width 1 limit 9 wear 1; pad at 1 1; load at 0 0 draws 9 group 1; load at 2 2 draws 9; budget 0 is 0;",
        "grid columns 9 rows 1 width 1 limit 0 wear 1; pad at 0 0; load at 8 0 draws 99; load at 7 0 draws 99;",
        "grid columns 2 rows 4 width 0 limit 0 wear 1; pad at 0 0; load at 1 3 draws 99;",
    };

    private static void tell(SupplyGrid grid, String text) {
        int[] numbers = new int[5];
        for (int from = 0; from < text.length(); from += 20) {
            for (int i = 0; i < 20; i++) {
                numbers[i / 4] = numbers[i / 4] << 8 | (from + i < text.length() ? text.charAt(from + i) : ' ');
            }
            grid.feed(numbers[0], numbers[1], numbers[2], numbers[3], numbers[4]);
        }
        rule(grid.grid() >= 0, "a good text is refused: " + text);
    }

    private static void oddArguments() throws Exception {
        int[] odd = {Integer.MIN_VALUE, -1000, -1, 0, 1, 2, 3, 8, 9, 11, 12, 20, 31, 32, 100, 101, 700, Integer.MAX_VALUE};
        for (Method method : SupplyGrid.class.getDeclaredMethods()) {
            if (!Modifier.isPublic(method.getModifiers())) {
                continue;
            }
            int n = method.getParameterCount();
            for (String text : TEXTS) {
                SupplyGrid grid = new SupplyGrid();
                tell(grid, text);
                long all = (long) Math.pow(odd.length, Math.min(n, 3));
                for (long code = 0; code < all; code++) {
                    Object[] arguments = new Object[n];
                    long rest = code;
                    for (int i = 0; i < n; i++) {
                        arguments[i] = odd[(int) (rest % odd.length)];
                        rest /= odd.length;
                    }
                    try {
                        method.invoke(grid, arguments);
                    } catch (java.lang.reflect.InvocationTargetException thrown) {
                        rule(false, method.getName() + " throws " + thrown.getCause());
                        break;
                    }
                }
            }
        }
    }

    /** All calls of a run live in one room: here they make nothing at all, and a new object is small. */
    private static void room() {
        com.sun.management.ThreadMXBean bean = (com.sun.management.ThreadMXBean) ManagementFactory.getThreadMXBean();
        long thread = Thread.currentThread().getId();
        long made = 0;
        long used = 0;
        for (int round = 0; round < 20; round++) {
            long start = bean.getThreadAllocatedBytes(thread);
            SupplyGrid grid = new SupplyGrid();
            long middle = bean.getThreadAllocatedBytes(thread);
            tell(grid, TEXTS[3]);
            long before = bean.getThreadAllocatedBytes(thread);
            busy(grid);
            used = bean.getThreadAllocatedBytes(thread) - before;
            made = middle - start;
        }
        rule(used < 2000, "calls make objects: " + used + " bytes");
        rule(made < 60000, "a new object takes " + made + " bytes");
    }

    private static long busy(SupplyGrid x) {
        long sum = 0;
        for (int i = 0; i < 9; i++) {
            sum += x.draw(i, 50 + i) + x.feeds(0) + x.holds() + x.drop(i, 0) + x.through(i, 0) + x.gives(i, 1) + x.chief() + x.area();
            sum += x.worst() + x.over() + x.loss(0) + x.moves(i, 3, 0) + x.resists(0, i, 0) + x.most(i, 0) + x.drawn(i, 2) + x.foe();
            sum += x.unsafe() + x.tight(i) + x.share(i, 2, 0) + x.feeder(i, 2) + x.parts() + x.reached(i) + x.heat(i, 0) + x.hottest();
            sum += x.wearing() + x.aged(5, i) + x.lasts() + x.worn(i) + x.calms() + x.pad(i) + x.pads(i) + x.padded(i, 0) + x.enough();
            sum += x.widens() + x.widen(i) + x.wide() + x.fewest() + x.few(i) + x.slims() + x.slim(i) + x.without(i, 0) + x.lost(i);
            sum += x.vital() + x.spare() + x.pairs() + x.pair(i) + x.chance(i, 9) + x.luck(i, 9, 0) + x.room(i) + x.year() + x.image(0);
            sum += x.undo() + x.back(0) + x.anew() + x.did(0, 0) + x.count(i);
        }
        return sum;
    }
}
