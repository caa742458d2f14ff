import java.lang.reflect.InvocationTargetException;
import java.lang.reflect.Method;
import java.lang.reflect.Modifier;
import java.nio.charset.StandardCharsets;
import java.util.ArrayList;
import java.util.Arrays;
import java.util.List;
import java.util.Map;
import java.util.Set;
import java.util.TreeSet;
import java.util.function.Supplier;

/**
 * Runs scripts of calls, each on a new object. Lines of a script:
 * <pre>
 *   text n: ..              feeds the text; grid() answers n, and there is no FAULT
 *   fault f p: ..           feeds the text; grid() answers -4, its FAULT is f, its place p
 *   put: ..                 feeds the text alone
 *   tape n                  feeds blanks till the TAPE has n bytes
 *   tell NAME               feeds the text of that name of GRIDS; grid() answers its LINES
 *   name arguments = answer a call with its answer; several answers: calls with 0, 1, 2 .. as the last argument
 *   name arguments          a call whose answer is free
 * </pre>
 * Ahead of a call "20x" makes it 20 times; "kept" says that nothing is changed by it, as far as later calls can tell.
 * {a b c} stands for each of these arguments. MIN and MAX are the least and the greatest int, LMIN the least long.
 * In a text &lt;200&gt; is the byte 200.
 */
final class Scripts {
    /** What the document says of an object's use. */
    private static final int MOST_CALLS = 512;
    private static final int PROMISES = 66;

    static final Map<String, String> GRIDS = Map.ofEntries(
        // DROPS 0, 3, 6. STRAPS: 0 from 0 to 1, 1 from 1 to 2.
        Map.entry("LINE", "grid columns 3 rows 1 width 2 limit 10 wear 5; pad at 0 0; load at 2 0 draws 6;"),
        // DROPS 0, 6, 6, 8. STRAPS: 0-1, 0-2, 1-3, 2-3.
        Map.entry("SQUARE", "grid columns 2 rows 2 width 1 limit 3 wear 9; pad at 0 0; load at 1 0 draws 4;"
            + "load at 0 1 draws 4;load at 1 1 draws 4; budget 0 is 8;"),
        // Nodes 0 - 1, 2 - 3 and 4: two parts with a PAD each (0, 3), and a DEAD one that draws. DROPS 0, 3, 3/2, 0.
        Map.entry("BROKEN", "grid columns 5 rows 1 width 2 limit 10 wear 2; strap at 1 0 east width 0; strap at 3 0 east width 0;"
            + "pad at 0 0; pad at 3 0; load at 1 0 draws 6; load at 2 0 draws 3 group 2; load at 4 0 draws 5;"),
        // No PAD: all are DEAD.
        Map.entry("DEAD", "grid columns 2 rows 1 width 1 limit 5 wear 5; load at 1 0 draws 3;"),
        // One NODE, a PAD that draws; no STRAPS.
        Map.entry("SINGLE", "grid columns 1 rows 1 width 4 limit 0 wear 1; pad at 0 0; load at 0 0 draws 7;"),
        // Three rows of three, a PAD in the middle, the corners draw. DROPS: corners 18, edges 12.
        Map.entry("CROSS", "grid columns 3 rows 3 width 1 limit 20 wear 6; pad at 1 1; load at 0 0 draws 12; load at 2 0 draws 12;"
            + "load at 0 2 draws 12; load at 2 2 draws 12;"),
        // Nine NODES, twelve STRAPS that are not there, nothing else.
        Map.entry("BARE", "grid columns 3 rows 3 width 0 limit 0 wear 1;"),
        // DROPS 0, 1, 2, 3 for each 1 drawn at the end; budgets of all, of GROUPS 1 and 2.
        Map.entry("GROUPS", "grid columns 4 rows 1 width 1 limit 20 wear 9;pad at 0 0;load at 0 0 draws 9;load at 1 0 draws 5 group 1;"
            + "load at 2 0 draws 5 group 1;load at 3 0 draws 5 group 2;budget 1 is 7;budget 2 is 3;budget 0 is 9;"),
        // One STRAP, 4 wide: HEAT and DROP 5/4, 5/3, 5/2, 5 as it wears, then it is gone.
        Map.entry("WEARS", "grid columns 2 rows 1 width 4 limit 2 wear 1; pad at 0 0; load at 1 0 draws 5;"),
        // Two ways from 0 to 3 that are alike. DROPS 0, 3, 3, 6.
        Map.entry("WAYS", "grid columns 2 rows 2 width 1 limit 12 wear 9;pad at 0 0;load at 1 1 draws 6;"),
        // The PAD is behind NODE 0, which draws. DROPS 3, 0.
        Map.entry("FIRST", "grid columns 2 rows 1 width 1 limit 2 wear 2;pad at 1 0;load at 0 0 draws 3;"),
        // Nine NODES, twelve STRAPS, something at the last ones.
        Map.entry("FULL", "grid columns 3 rows 3 width 1 limit 40 wear 3; pad at 0 0; load at 2 2 draws 9 group 3; load at 0 1 draws 4;"
            + "load at 1 1 draws 5 group 1; load at 2 0 draws 7 group 2; strap at 1 2 east width 2; budget 3 is 8;"),
        // As FULL, but wide STRAPS and great LOADS: fractions of many digits.
        Map.entry("LARGE", "grid columns 3 rows 3 width 4 limit 99 wear 9;pad at 0 0;load at 1 0 draws 99;load at 2 0 draws 98;"
            + "load at 0 1 draws 97;load at 1 1 draws 96;load at 2 1 draws 95;load at 0 2 draws 94;load at 1 2 draws 93;load at 2 2 draws 99;"
            + "strap at 0 0 south width 3;strap at 1 1 south width 3;strap at 1 1 east width 3;strap at 0 2 east width 3;"));

    /** A script that shows that a promise holds in one case. */
    record Case(int promise, String name, String script) {
        String head() {
            return "promise " + promise + ": " + name + ":";
        }
    }

    private record Call(String name, int[] arguments) {
    }

    private final Supplier<Object> maker;
    private final boolean probes;
    private final Set<String> called = new TreeSet<>();
    private int wrong = 0;
    private String head = "";
    private Object target;
    private List<Call> done = new ArrayList<>();

    /** Without probes "kept" looks at the answer alone. */
    Scripts(Supplier<Object> maker, boolean probes) {
        this.maker = maker;
        this.probes = probes;
    }

    /** Runs cases on SupplyGrid, and says how it went. */
    static boolean runCases(String title, List<Case> cases) {
        Scripts scripts = new Scripts(SupplyGrid::new, true);
        return scripts.runEach(title, cases);
    }

    /** As runCases; there must be a case for each promise, and each call must be made. */
    static boolean runAll(String title, List<Case> cases) {
        Scripts scripts = new Scripts(SupplyGrid::new, true);
        boolean good = scripts.runEach(title, cases);
        for (Method method : SupplyGrid.class.getDeclaredMethods()) {
            if (Modifier.isPublic(method.getModifiers()) && !scripts.called.contains(method.getName())) {
                scripts.fail(title + ": no script calls " + method.getName());
            }
        }
        for (int n = 1; n <= PROMISES; n++) {
            int promise = n;
            if (cases.stream().noneMatch(one -> one.promise == promise)) {
                scripts.fail(title + ": no case of promise " + promise);
            }
        }
        return good && scripts.wrong == 0;
    }

    boolean runEach(String title, List<Case> cases) {
        for (Case one : cases) {
            run(one);
        }
        System.out.println(title + ": " + cases.size() + " cases, " + (wrong == 0 ? "all as due" : wrong + " not as due"));
        return wrong == 0;
    }

    private void fail(String message) {
        wrong++;
        System.out.println(message);
    }

    private void run(Case one) {
        head = one.head();
        target = maker.get();
        done = new ArrayList<>();
        for (String line : one.script.split("\n")) {
            if (!line.isBlank()) {
                runLine(line.strip());
            }
        }
        if (done.size() > MOST_CALLS) {
            fail(head + " has more than " + MOST_CALLS + " calls");
        }
    }

    private void runLine(String line) {
        int colon = line.indexOf(':');
        String[] words = (colon < 0 ? line : line.substring(0, colon)).split(" ");
        String text = colon < 0 ? "" : line.substring(Math.min(line.length(), colon + 2));
        switch (words[0]) {
            case "text":
                feedText(text);
                told(line, Integer.parseInt(words[1]), 0, -1);
                break;
            case "fault":
                if (colon < 0) {
                    runCalls(line);
                } else {
                    feedText(text);
                    told(line, -4, Integer.parseInt(words[1]), Integer.parseInt(words[2]));
                }
                break;
            case "put":
                feedText(text);
                break;
            case "tape":
                feedText(" ".repeat(Integer.parseInt(words[1]) - (int) call("count", 7)));
                break;
            case "tell":
                feedText(GRIDS.get(words[1]));
                told(line, (int) GRIDS.get(words[1]).chars().filter(sign -> sign == ';').count(), 0, -1);
                break;
            default:
                runCalls(line);
        }
    }

    private void told(String line, int lines, int fault, int place) {
        check(line + " (grid)", call("grid"), lines);
        check(line + " (fault)", call("fault", 0), fault);
        check(line + " (place)", call("fault", 1), place);
    }

    private void runCalls(String line) {
        String[] halves = line.split(" *=", 2);
        String[] answers = halves.length < 2 ? new String[] {""} : halves[1].strip().split(" +");
        String asked = halves[0];
        boolean kept = asked.startsWith("kept ");
        asked = kept ? asked.substring(5) : asked;
        int times = 1;
        if (asked.matches("[0-9]+x .*")) {
            times = Integer.parseInt(asked.substring(0, asked.indexOf('x')));
            asked = asked.substring(asked.indexOf('x') + 2);
        }
        for (int time = 0; time < times; time++) {
            for (String each : unfold(asked)) {
                for (int i = 0; i < answers.length; i++) {
                    String full = answers.length == 1 ? each : each + " " + i;
                    runCall(full, answers[i], kept);
                }
            }
        }
    }

    private static List<String> unfold(String asked) {
        int from = asked.indexOf('{');
        if (from < 0) {
            return List.of(asked);
        }
        int to = asked.indexOf('}');
        List<String> all = new ArrayList<>();
        for (String each : asked.substring(from + 1, to).strip().split(" +")) {
            all.addAll(unfold(asked.substring(0, from) + each + asked.substring(to + 1)));
        }
        return all;
    }

    private void runCall(String full, String answer, boolean kept) {
        String[] words = full.strip().split(" +");
        int[] arguments = new int[words.length - 1];
        for (int i = 0; i < arguments.length; i++) {
            arguments[i] = (int) number(words[i + 1]);
        }
        List<String> before = kept && probes ? probe() : List.of();
        long got = call(words[0], arguments);
        if (!answer.isEmpty()) {
            check(full, got, number(answer));
        }
        if (kept && probes && !before.equals(probe())) {
            fail(head + " " + full + " changed something");
        }
    }

    private static long number(String word) {
        switch (word) {
            case "MIN": return Integer.MIN_VALUE;
            case "MAX": return Integer.MAX_VALUE;
            case "LMIN": return Long.MIN_VALUE;
            default: return Long.parseLong(word);
        }
    }

    private void check(String asked, long got, long want) {
        if (got != want) {
            fail(head + " " + asked + " answered " + got + ", due is " + want);
        }
    }

    private void feedText(String told) {
        byte[] text = bytesOf(told);
        int start = (int) call("count", 7);
        for (int from = 0; from < text.length; from += 20) {
            call("feed", numbersOf(text, from));
        }
        // A feed() that is refused for want of room shows here.
        check("the TAPE has room for " + told, call("end", start + text.length), start + text.length);
    }

    /** Tells a GRID of GRIDS without a script. */
    static void tell(Object target, String name) {
        byte[] text = bytesOf(GRIDS.get(name));
        for (int from = 0; from < text.length; from += 20) {
            invoke(target, "feed", numbersOf(text, from));
        }
        invoke(target, "grid");
    }

    static byte[] bytesOf(String told) {
        StringBuilder text = new StringBuilder();
        for (int i = 0; i < told.length(); i++) {
            int close = told.charAt(i) == '<' ? told.indexOf('>', i) : -1;
            if (close > 0) {
                text.append((char) Integer.parseInt(told.substring(i + 1, close)));
                i = close;
            } else {
                text.append(told.charAt(i));
            }
        }
        return text.toString().getBytes(StandardCharsets.ISO_8859_1);
    }

    /** Twenty bytes as the five numbers of a feed(); blanks where there are none. */
    static int[] numbersOf(byte[] text, int from) {
        int[] numbers = new int[5];
        for (int i = 0; i < 20; i++) {
            numbers[i / 4] = numbers[i / 4] << 8 | (from + i < text.length ? text[from + i] & 255 : ' ');
        }
        return numbers;
    }

    private long call(String name, int... arguments) {
        called.add(name);
        done.add(new Call(name, arguments));
        return invoke(target, name, arguments);
    }

    static long invoke(Object target, String name, int... arguments) {
        Class<?>[] types = new Class<?>[arguments.length];
        Arrays.fill(types, int.class);
        try {
            Object[] boxed = Arrays.stream(arguments).boxed().toArray();
            return ((Number) target.getClass().getMethod(name, types).invoke(target, boxed)).longValue();
        } catch (InvocationTargetException thrown) {
            throw new IllegalStateException(name + Arrays.toString(arguments) + " throws", thrown.getCause());
        } catch (ReflectiveOperationException absent) {
            throw new IllegalStateException("no call " + name + Arrays.toString(arguments), absent);
        }
    }

    // ---- what later calls can tell

    /** Each look is at a new object that has had the same calls: the looks themselves change it, and it has 512 calls. */
    private List<String> probe() {
        List<String> looks = new ArrayList<>();
        Object plain = replay();
        looks.add("now " + invoke(plain, "fault", 0) + " " + invoke(plain, "fault", 1) + " " + invoke(plain, "count", 7) + stateOf(plain));
        for (int k = 0; k < 3; k++) {
            Object other = replay();
            looks.add("image " + k + ": " + invoke(other, "back", k) + stateOf(other) + undone(other));
        }
        looks.add("undone " + undone(replay()));
        Object read = replay();
        looks.add("tape " + invoke(read, "grid") + " " + invoke(read, "fault", 0) + " " + invoke(read, "fault", 1) + stateOf(read));
        return looks;
    }

    private Object replay() {
        Object other = maker.get();
        for (Call call : done) {
            invoke(other, call.name, call.arguments);
        }
        return other;
    }

    private static String stateOf(Object target) {
        StringBuilder state = new StringBuilder();
        for (int what : new int[] {0, 1, 2, 3, 4, 5, 6, 8, 9}) {
            state.append(' ').append(invoke(target, "count", what));
        }
        for (int strap = 0; strap < 12; strap++) {
            state.append(' ').append(invoke(target, "strap", strap, 0)).append('-').append(invoke(target, "strap", strap, 1));
            state.append('=').append(invoke(target, "strap", strap, 2));
        }
        for (int node = 0; node < 9; node++) {
            state.append(' ').append(invoke(target, "node", node, 1)).append('/').append(invoke(target, "node", node, 2));
        }
        for (int group = 0; group < 4; group++) {
            state.append(' ').append(invoke(target, "budget", group));
            state.append(' ').append(invoke(target, "did", group, 0)).append(' ').append(invoke(target, "did", group, 1));
        }
        return state.append(' ').append(invoke(target, "holds")).append(' ').append(invoke(target, "loss", 0)).toString();
    }

    private static String undone(Object target) {
        StringBuilder state = new StringBuilder();
        long straps = invoke(target, "count", 4);
        long nodes = invoke(target, "count", 0) * invoke(target, "count", 1);
        for (int turn = 0; turn < 21; turn++) {
            long acts = invoke(target, "undo");
            state.append(" undo ").append(acts).append(' ').append(invoke(target, "count", 8));
            for (int strap = 0; strap < straps; strap++) {
                state.append(' ').append(invoke(target, "strap", strap, 2));
            }
            for (int node = 0; node < nodes; node++) {
                state.append(' ').append(invoke(target, "node", node, 1));
            }
            if (acts < 0) {
                break;
            }
        }
        return state.toString();
    }
}
