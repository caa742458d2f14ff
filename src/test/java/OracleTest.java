import java.lang.reflect.Method;
import java.math.BigInteger;
import java.util.ArrayList;
import java.util.Arrays;
import java.util.HashMap;
import java.util.List;
import java.util.Map;
import java.util.Random;
import java.util.TreeMap;

/**
 * Random runs of calls, answered by SupplyGrid and by a slow model of the document (snapshots for
 * undo, fractions of big integers, no short cuts). The model runs all scripts, too.
 * Usage: OracleTest [runs [first seed]].
 */
public final class OracleTest {
    /** Each call with the kinds of its arguments: see argument(). */
    private static final String[] CALLS = {
        "fault W", "count c", "strap S c", "between N N", "node N c", "budget g", "drop N W", "through S W",
        "gives N W", "chief", "area", "worst", "over", "holds", "loss W", "moves N N W", "resists N N W",
        "most N W", "drawn N N", "foe", "unsafe", "tight N", "share N N W", "feeder N i", "parts", "reached N",
        "heat S W", "hottest", "wearing", "aged y S", "lasts", "worn S", "calms", "pad i", "pads i", "padded i W",
        "enough", "widens", "widen i", "wide", "fewest", "few i", "slims", "slim S", "without S W", "lost S",
        "vital", "spare", "pairs", "pair i", "chance x t", "luck x t W", "room N", "did k W",
    };
    private static final String[] ACTS = {
        "lay S w", "lay S w", "feeds N", "draw N d", "draw N d", "year", "year", "undo", "anew", "image m", "image m", "back m",
    };

    private final Random random;
    private final SupplyGrid real = new SupplyGrid();
    private final Model model = new Model();
    private final List<String> told = new ArrayList<>();
    private int calls = 0;

    private OracleTest(long seed) {
        random = new Random(seed);
    }

    public static void main(String[] args) throws Exception {
        int runs = args.length > 0 ? Integer.parseInt(args[0]) : 250;
        long first = args.length > 1 ? Long.parseLong(args[1]) : 1;
        int wrong = 0;
        Map<String, Integer> usual = new TreeMap<>();
        for (long seed = first; seed < first + runs && wrong < 5; seed++) {
            OracleTest test = new OracleTest(seed);
            if (!test.run(usual)) {
                wrong++;
                System.out.println("seed " + seed + ":");
                for (String line : test.told) {
                    System.out.println("  " + line);
                }
            }
        }
        for (String call : CALLS) {
            String name = call.split(" ")[0];
            if (runs >= 100 && usual.getOrDefault(name, 0) == 0) {
                wrong++;
                System.out.println(name + " never answered anything of weight");
            }
        }
        List<Scripts.Case> cases = new ArrayList<>(PromiseTest.cases());
        cases.addAll(EdgeTest.cases());
        // What the scripts ask for is looked at here by other eyes than SupplyGrid's.
        wrong += new Scripts(Model::new, false).runEach("the model's scripts", cases) ? 0 : 1;
        System.out.println(wrong == 0 ? "oracle: " + runs + " runs agree" : "oracle: " + wrong + " runs differ");
        if (wrong != 0) {
            System.exit(1);
        }
    }

    private boolean run(Map<String, Integer> usual) throws Exception {
        while (calls < 490) {
            if (calls == 0 && random.nextInt(8) != 0 || random.nextInt(60) == 0) {
                if (!tellText()) {
                    return false;
                }
            }
            String[] list = random.nextInt(7) == 0 ? ACTS : CALLS;
            if (!call(list[random.nextInt(list.length)], usual)) {
                return false;
            }
        }
        return true;
    }

    private boolean call(String form, Map<String, Integer> usual) throws Exception {
        String[] words = form.split(" ");
        int[] arguments = new int[words.length - 1];
        for (int i = 0; i < arguments.length; i++) {
            arguments[i] = argument(words[i + 1].charAt(0));
        }
        return same(words[0], arguments, usual);
    }

    private boolean same(String name, int[] arguments, Map<String, Integer> usual) throws Exception {
        Class<?>[] types = new Class<?>[arguments.length];
        Object[] boxed = new Object[arguments.length];
        for (int i = 0; i < types.length; i++) {
            types[i] = int.class;
            boxed[i] = arguments[i];
        }
        Method method = SupplyGrid.class.getMethod(name, types);
        Method other = Model.class.getMethod(name, types);
        long got = ((Number) method.invoke(real, boxed)).longValue();
        long want = ((Number) other.invoke(model, boxed)).longValue();
        calls++;
        if (told.size() > 60) {
            told.remove(0);
        }
        told.add(name + Arrays.toString(arguments) + " answered " + got + ", due is " + want);
        if (got > 0) {
            usual.merge(name, 1, Integer::sum);
        }
        return got == want;
    }

    private int argument(char kind) {
        if (random.nextInt(60) == 0) {
            int[] odd = {-1, Integer.MIN_VALUE, Integer.MAX_VALUE, 101, 13, 10, -2};
            return odd[random.nextInt(odd.length)];
        }
        switch (kind) {
            case 'N': return random.nextInt(Math.max(1, model.nodes()) + (random.nextInt(15) == 0 ? 1 : 0));
            case 'S': return random.nextInt(Math.max(1, model.straps()) + (random.nextInt(15) == 0 ? 1 : 0));
            case 'W': return random.nextInt(20) == 0 ? 2 : random.nextInt(2);
            case 'c': return random.nextInt(11);
            case 'g': return random.nextInt(5);
            case 'i': return random.nextInt(random.nextInt(3) == 0 ? 21 : 4);
            case 'y': return random.nextInt(random.nextInt(5) == 0 ? 102 : 6);
            case 'x': return random.nextInt() & 0x7fffffff;
            case 't': return random.nextInt(random.nextInt(8) == 0 ? 102 : 6);
            case 'k': return random.nextInt(5);
            case 'w': return random.nextInt(random.nextInt(9) == 0 ? 6 : 5);
            case 'd': return random.nextInt(random.nextInt(4) == 0 ? 101 : 20);
            case 'm': return random.nextInt(random.nextInt(5) == 0 ? 4 : 3);
            default: throw new IllegalStateException("kind " + kind);
        }
    }

    // ---- texts

    private boolean tellText() throws Exception {
        String text = random.nextInt(12) == 0 ? blank() : text();
        if (random.nextInt(3) == 0) {
            text = spoil(text);
        }
        text = text.length() > 700 ? text.substring(0, 700) : text;
        told.add("text: " + text);
        while (text.length() > 0 || random.nextInt(9) == 0) {
            int[] numbers = new int[5];
            for (int i = 0; i < 20; i++) {
                int sign = i < text.length() ? text.charAt(i) : random.nextInt(256);
                numbers[i / 4] = numbers[i / 4] << 8 | sign;
            }
            int size = model.taped();
            if (!same("feed", numbers, new TreeMap<>())) {
                return false;
            }
            if (model.taped() == size) {
                break;
            }
            int rest = Math.min(20, text.length());
            text = text.substring(rest);
            if (rest < 20 && !same("end", new int[] {size + rest}, new TreeMap<>())) {
                return false;
            }
        }
        if (random.nextInt(10) == 0 && !same("end", new int[] {random.nextInt(400) - 2}, new TreeMap<>())) {
            return false;
        }
        boolean good = same("count", new int[] {7}, new TreeMap<>()) && same("grid", new int[0], new TreeMap<>());
        return good && same("fault", new int[] {0}, new TreeMap<>()) && same("fault", new int[] {1}, new TreeMap<>())
            && same("count", new int[] {6}, new TreeMap<>()) && same("count", new int[] {7}, new TreeMap<>());
    }

    private String blank() {
        StringBuilder text = new StringBuilder();
        for (int i = random.nextInt(4); i > 0; i--) {
            text.append(random.nextInt(4) == 0 ? '\n' : ' ');
        }
        return text.toString();
    }

    private String text() {
        int[][] shapes = {{3, 3}, {3, 3}, {3, 2}, {2, 3}, {2, 2}, {4, 2}, {2, 4}, {1, 5}, {5, 1}, {9, 1}, {1, 9}, {1, 1}, {3, 1}, {8, 1}};
        int[] shape = shapes[random.nextInt(shapes.length)];
        int columns = shape[0];
        int rows = shape[1];
        StringBuilder text = new StringBuilder(blank());
        add(text, "grid columns " + columns + " rows " + rows + " width " + random.nextInt(5)
            + " limit " + random.nextInt(random.nextInt(6) == 0 ? 1000 : 60) + " wear " + (1 + random.nextInt(random.nextInt(6) == 0 ? 999 : 12)) + ";");
        for (int i = random.nextInt(5); i > 0; i--) {
            int x = random.nextInt(columns);
            int y = random.nextInt(rows);
            boolean east = x + 1 < columns && (y + 1 >= rows || random.nextBoolean());
            if (east || y + 1 < rows) {
                add(text, "strap at " + x + " " + y + (east ? " east" : " south") + " width " + random.nextInt(5) + ";");
            }
        }
        int mostPads = random.nextInt(8) == 0 ? 9 : 3;
        int padsLeft = random.nextInt(12) == 0 ? 0 : 1 + random.nextInt(mostPads);
        double often = random.nextDouble();
        for (int node : shuffled(columns * rows)) {
            String place = " at " + node % columns + " " + node / columns;
            if (padsLeft > 0) {
                add(text, "pad" + place + ";");
                padsLeft--;
            }
            if (random.nextDouble() < often) {
                int draws = 1 + random.nextInt(random.nextInt(8) == 0 ? 99 : 25);
                add(text, "load" + place + " draws " + draws + (random.nextBoolean() ? " group " + (1 + random.nextInt(3)) : "") + ";");
            }
        }
        for (int group = 0; group < 4; group++) {
            if (random.nextInt(2) == 0) {
                add(text, "budget " + group + " is " + random.nextInt(random.nextInt(4) == 0 ? 1000 : 40) + ";");
            }
        }
        return text.toString();
    }

    private List<Integer> shuffled(int n) {
        List<Integer> list = new ArrayList<>();
        for (int i = 0; i < n; i++) {
            list.add(random.nextInt(list.size() + 1), i);
        }
        return list;
    }

    /** Blanks are left out, doubled, or made new lines, where that tells the same. */
    private void add(StringBuilder text, String line) {
        for (int i = 0; i < line.length(); i++) {
            char sign = line.charAt(i);
            if (sign != ' ') {
                text.append(sign);
            } else if (i > 0 && Character.isLetter(line.charAt(i - 1)) != Character.isLetter(line.charAt(i + 1)) && random.nextInt(5) == 0) {
                continue;
            } else {
                text.append(random.nextInt(9) == 0 ? '\n' : ' ').append(random.nextInt(9) == 0 ? " " : "");
            }
        }
        if (random.nextInt(5) == 0) {
            text.append(blank());
        }
    }

    private String spoil(String text) {
        if (text.isEmpty()) {
            return "; ";
        }
        String[] pieces = {"grid", "strap", "pad", "load", "budget", "at", "0", "1", "7", "12", "999", "1000", ";", "east", "south",
            "west", "group", "is", "width", "wear", "limit", "draws", "99999999999999999999", "00", "A", "-", ".", " ", "", "4294967297"};
        int from = random.nextInt(text.length());
        switch (random.nextInt(5)) {
            case 0: return text.substring(0, from);
            case 1: return text.substring(0, from) + (char) random.nextInt(256) + text.substring(from + 1);
            case 2: return text.substring(0, from) + text.substring(Math.min(text.length(), from + 1 + random.nextInt(3)));
            case 3: {
                String[] lines = text.split("(?<=;)");
                String again = lines[random.nextInt(lines.length)];
                return text + again;
            }
            default: {
                List<String> tokens = new ArrayList<>(List.of(text.split("(?<=[ \n;])|(?=[ \n;])")));
                int at = random.nextInt(tokens.size());
                tokens.set(at, pieces[random.nextInt(pieces.length)]);
                return String.join("", tokens);
            }
        }
    }

    // ---- the model

    /** A fraction in lowest terms. */
    private record Q(BigInteger above, BigInteger below) implements Comparable<Q> {
        static final Q ZERO = of(0);

        static Q of(long number) {
            return new Q(BigInteger.valueOf(number), BigInteger.ONE);
        }

        static Q make(BigInteger above, BigInteger below) {
            BigInteger g = above.gcd(below);
            if (below.signum() < 0) {
                g = g.negate();
            }
            return new Q(above.divide(g), below.divide(g));
        }

        Q plus(Q other) {
            return make(above.multiply(other.below).add(other.above.multiply(below)), below.multiply(other.below));
        }

        Q minus(Q other) {
            return plus(new Q(other.above.negate(), other.below));
        }

        Q times(Q other) {
            return make(above.multiply(other.above), below.multiply(other.below));
        }

        Q by(Q other) {
            return make(above.multiply(other.below), below.multiply(other.above));
        }

        Q size() {
            return new Q(above.abs(), below);
        }

        public int compareTo(Q other) {
            return above.multiply(other.below).compareTo(other.above.multiply(below));
        }

        long part(int what) {
            return (what == 0 ? above : below).longValueExact();
        }
    }

    private record Score(int dead, Q drop) implements Comparable<Score> {
        public int compareTo(Score other) {
            return dead != other.dead ? Integer.compare(dead, other.dead) : drop.compareTo(other.drop);
        }
    }

    private static final class State {
        int columns;
        int rows;
        int limit;
        int wear;
        int lines;
        int[] from = {};
        int[] to = {};
        int[] widths = {};
        boolean[] pads = {};
        int[] loads = {};
        int[] groups = {};
        int[] budgets = {999, 999, 999, 999};

        State copy() {
            State copy = new State();
            copy.columns = columns;
            copy.rows = rows;
            copy.limit = limit;
            copy.wear = wear;
            copy.lines = lines;
            copy.from = from.clone();
            copy.to = to.clone();
            copy.widths = widths.clone();
            copy.pads = pads.clone();
            copy.loads = loads.clone();
            copy.groups = groups.clone();
            copy.budgets = budgets.clone();
            return copy;
        }

        int nodes() {
            return columns * rows;
        }

        State widened(int strap, int by) {
            State other = copy();
            other.widths[strap] += by;
            return other;
        }

        String key() {
            return Arrays.toString(widths) + Arrays.toString(pads) + Arrays.toString(loads);
        }

        boolean[] reach(int node) {
            boolean[] seen = new boolean[nodes()];
            List<Integer> open = new ArrayList<>(List.of(node));
            while (!open.isEmpty()) {
                int at = open.remove(open.size() - 1);
                if (seen[at]) {
                    continue;
                }
                seen[at] = true;
                for (int s = 0; s < widths.length; s++) {
                    if (widths[s] > 0 && from[s] == at) {
                        open.add(to[s]);
                    }
                    if (widths[s] > 0 && to[s] == at) {
                        open.add(from[s]);
                    }
                }
            }
            return seen;
        }

        boolean dead(int node) {
            boolean[] seen = reach(node);
            for (int n = 0; n < seen.length; n++) {
                if (seen[n] && pads[n]) {
                    return false;
                }
            }
            return true;
        }

        /** DROPS, null where DEAD. */
        Q[] solve() {
            int n = nodes();
            Q[][] m = new Q[n][n + 1];
            boolean[] dead = new boolean[n];
            for (int i = 0; i < n; i++) {
                Arrays.fill(m[i], Q.ZERO);
                dead[i] = dead(i);
                if (dead[i] || pads[i]) {
                    m[i][i] = Q.of(1);
                    continue;
                }
                m[i][n] = Q.of(loads[i]);
                for (int s = 0; s < widths.length; s++) {
                    if (from[s] == i || to[s] == i) {
                        int other = from[s] + to[s] - i;
                        m[i][i] = m[i][i].plus(Q.of(widths[s]));
                        m[i][other] = m[i][other].minus(Q.of(widths[s]));
                    }
                }
            }
            for (int k = n - 1; k >= 0; k--) {
                int pivot = k;
                while (m[pivot][k].above.signum() == 0) {
                    pivot--;
                }
                Q[] swap = m[pivot];
                m[pivot] = m[k];
                m[k] = swap;
                for (int i = 0; i < n; i++) {
                    if (i != k && m[i][k].above.signum() != 0) {
                        Q factor = m[i][k].by(m[k][k]);
                        for (int j = 0; j <= n; j++) {
                            if (m[k][j].above.signum() != 0) {
                                m[i][j] = m[i][j].minus(factor.times(m[k][j]));
                            }
                        }
                    }
                }
            }
            Q[] drops = new Q[n];
            for (int i = 0; i < n; i++) {
                drops[i] = dead[i] ? null : m[i][n].by(m[i][i]);
            }
            return drops;
        }
    }

    private record Act(int kind, int answer, State before) {
    }

    private record Kept(State state, List<Act> acts) {
    }

    public static final class Model {
        private final StringBuilder tape = new StringBuilder();
        private int fault = 0;
        private int faultAt = -1;
        private State g = null;
        private List<Act> acts = new ArrayList<>();
        private final Kept[] images = new Kept[3];
        private final Map<String, Q[]> solved = new HashMap<>();

        int nodes() {
            return g == null ? 0 : g.nodes();
        }

        int straps() {
            return g == null ? 0 : g.widths.length;
        }

        int taped() {
            return tape.length();
        }

        private boolean noNode(int node) {
            return g == null || node < 0 || node >= nodes();
        }

        private boolean noStrap(int strap) {
            return g == null || strap < 0 || strap >= straps();
        }

        private static boolean noPart(int what) {
            return what != 0 && what != 1;
        }

        private Q[] drops(State state) {
            if (solved.size() > 200000) {
                solved.clear();
            }
            return solved.computeIfAbsent(g.columns + "x" + state.key(), k -> state.solve());
        }

        private Score score(State state) {
            int dead = 0;
            Q most = Q.ZERO;
            Q[] drops = drops(state);
            for (int n = 0; n < drops.length; n++) {
                if (drops[n] == null) {
                    dead += state.loads[n] > 0 ? 1 : 0;
                } else if (drops[n].compareTo(most) > 0) {
                    most = drops[n];
                }
            }
            return new Score(dead, most);
        }

        private boolean holdsFor(State state) {
            Score score = score(state);
            return score.dead == 0 && score.drop.compareTo(Q.of(state.limit)) <= 0;
        }

        // ---- the text

        public int feed(int a, int b, int c, int d, int e) {
            if (tape.length() > 680) {
                return -1;
            }
            for (int number : new int[] {a, b, c, d, e}) {
                tape.append((char) (number >>> 24)).append((char) (number >>> 16 & 255));
                tape.append((char) (number >>> 8 & 255)).append((char) (number & 255));
            }
            return tape.length();
        }

        public int end(int n) {
            if (n < 0 || n > tape.length()) {
                return -1;
            }
            tape.setLength(n);
            return n;
        }

        public int grid() {
            List<String> tokens = new ArrayList<>();
            List<Integer> places = new ArrayList<>();
            java.util.regex.Matcher matcher = java.util.regex.Pattern.compile("[ \n]+|[a-z]+|[0-9]+|(?s:.)").matcher(tape);
            while (matcher.find()) {
                if (!matcher.group().isBlank() || !matcher.group().matches("[ \n]+")) {
                    tokens.add(matcher.group());
                    places.add(matcher.start());
                }
            }
            tokens.add("$");
            places.add(tape.length());
            tape.setLength(0);
            TextModel text = new TextModel(tokens);
            State state = text.parse();
            fault = text.fault;
            faultAt = text.fault == 0 ? -1 : places.get(text.at);
            if (fault != 0) {
                return -4;
            }
            g = state.lines == 0 ? null : state;
            acts = new ArrayList<>();
            return state.lines;
        }

        public int fault(int what) {
            return what == 0 ? fault : what == 1 ? faultAt : -1;
        }

        public int count(int what) {
            if (what == 7) {
                return tape.length();
            }
            if (what < 0 || what > 9) {
                return -1;
            }
            if (g == null) {
                return 0;
            }
            int pads = 0;
            int dead = 0;
            for (int n = 0; n < nodes(); n++) {
                pads |= g.pads[n] ? 1 << n : 0;
                dead |= g.dead(n) ? 1 << n : 0;
            }
            return new int[] {g.columns, g.rows, g.limit, g.wear, straps(), acts.size(), g.lines, 0, pads, dead}[what];
        }

        public int strap(int strap, int what) {
            if (noStrap(strap) || what < 0 || what > 2) {
                return -1;
            }
            return what == 0 ? g.from[strap] : what == 1 ? g.to[strap] : g.widths[strap];
        }

        public int between(int node, int other) {
            if (noNode(node) || noNode(other)) {
                return -2;
            }
            for (int s = 0; s < straps(); s++) {
                if (g.from[s] == Math.min(node, other) && g.to[s] == Math.max(node, other)) {
                    return s;
                }
            }
            return -1;
        }

        public int node(int node, int what) {
            if (noNode(node) || what < 0 || what > 3) {
                return -1;
            }
            return new int[] {g.pads[node] ? 1 : 0, g.loads[node], g.groups[node], g.dead(node) ? 1 : 0}[what];
        }

        public int budget(int group) {
            return g == null || group < 0 || group > 3 ? -1 : g.budgets[group];
        }

        // ---- DROPS

        public long drop(int node, int what) {
            if (noNode(node) || noPart(what)) {
                return -2;
            }
            Q drop = drops(g)[node];
            return drop == null ? -1 : drop.part(what);
        }

        private Q goes(State state, int strap) {
            Q[] drops = drops(state);
            Q start = drops[state.from[strap]];
            Q stop = drops[state.to[strap]];
            return state.widths[strap] == 0 || start == null ? Q.ZERO : stop.minus(start).times(Q.of(state.widths[strap]));
        }

        public long through(int strap, int what) {
            return noStrap(strap) || noPart(what) ? Long.MIN_VALUE : goes(g, strap).part(what);
        }

        private Q given(int node) {
            Q sum = Q.of(g.loads[node]);
            for (int s = 0; s < straps(); s++) {
                if (g.from[s] == node) {
                    sum = sum.plus(goes(g, s));
                }
                if (g.to[s] == node) {
                    sum = sum.minus(goes(g, s));
                }
            }
            return sum;
        }

        public long gives(int node, int what) {
            if (noNode(node) || noPart(what)) {
                return -2;
            }
            return g.pads[node] ? given(node).part(what) : -1;
        }

        public int chief() {
            if (g == null) {
                return -2;
            }
            int best = -1;
            for (int n = nodes() - 1; n >= 0; n--) {
                if (g.pads[n] && (best < 0 || given(n).compareTo(given(best)) >= 0)) {
                    best = n;
                }
            }
            return best;
        }

        public int area() {
            return g == null ? -2 : Arrays.stream(g.widths).sum();
        }

        public int worst() {
            if (g == null) {
                return -2;
            }
            int best = -1;
            Q[] drops = drops(g);
            for (int n = nodes() - 1; n >= 0; n--) {
                if (drops[n] != null && (best < 0 || drops[n].compareTo(drops[best]) >= 0)) {
                    best = n;
                }
            }
            return best;
        }

        public int over() {
            if (g == null) {
                return -2;
            }
            int bits = 0;
            for (int n = 0; n < nodes(); n++) {
                Q drop = drops(g)[n];
                bits |= drop != null && drop.compareTo(Q.of(g.limit)) > 0 ? 1 << n : 0;
            }
            return bits;
        }

        public int holds() {
            return g == null ? -2 : holdsFor(g) ? 1 : 0;
        }

        public long loss(int what) {
            if (g == null || noPart(what)) {
                return -2;
            }
            // What is lost in a strap is what goes through it times how far it drops along it.
            Q sum = Q.ZERO;
            for (int s = 0; s < straps(); s++) {
                Q goes = goes(g, s);
                sum = g.widths[s] == 0 ? sum : sum.plus(goes.times(goes).by(Q.of(g.widths[s])));
            }
            return sum.part(what);
        }

        private State alone(int node) {
            State state = g.copy();
            Arrays.fill(state.loads, 0);
            state.loads[node] = 1;
            return state;
        }

        public long moves(int node, int by, int what) {
            if (noNode(node) || noNode(by) || noPart(what)) {
                return -2;
            }
            return g.dead(node) || g.dead(by) ? -1 : drops(alone(by))[node].part(what);
        }

        public long resists(int node, int other, int what) {
            if (noNode(node) || noNode(other) || noPart(what)) {
                return -2;
            }
            if (!g.reach(node)[other]) {
                return -1;
            }
            State state = alone(node);
            Arrays.fill(state.pads, false);
            state.pads[other] = true;
            return drops(state)[node].part(what);
        }

        // ---- bounded

        private Q[] mostAt(int node, int[] draws, int[] left) {
            System.arraycopy(g.budgets, 0, left, 0, 4);
            List<Integer> order = new ArrayList<>();
            Map<Integer, Q> effect = new HashMap<>();
            for (int n = 0; n < nodes(); n++) {
                if (!g.dead(n)) {
                    order.add(n);
                    effect.put(n, drops(alone(n))[node]);
                }
            }
            order.sort((a, b) -> effect.get(b).compareTo(effect.get(a)));
            Q sum = Q.ZERO;
            for (int n : order) {
                int group = g.groups[n];
                int may = Math.min(g.loads[n], left[0]);
                may = group == 0 ? may : Math.min(may, left[group]);
                draws[n] = may;
                left[0] -= may;
                if (group != 0) {
                    left[group] -= may;
                }
                sum = sum.plus(effect.get(n).times(Q.of(may)));
            }
            return new Q[] {sum};
        }

        private Q mostOf(int node) {
            return mostAt(node, new int[9], new int[4])[0];
        }

        public long most(int node, int what) {
            if (noNode(node) || noPart(what)) {
                return -2;
            }
            return g.dead(node) ? -1 : mostOf(node).part(what);
        }

        public int drawn(int node, int other) {
            if (noNode(node) || noNode(other)) {
                return -2;
            }
            if (g.dead(node)) {
                return -1;
            }
            int[] draws = new int[9];
            mostAt(node, draws, new int[4]);
            return draws[other];
        }

        public int foe() {
            if (g == null) {
                return -2;
            }
            int best = -1;
            for (int n = nodes() - 1; n >= 0; n--) {
                if (!g.dead(n) && (best < 0 || mostOf(n).compareTo(mostOf(best)) >= 0)) {
                    best = n;
                }
            }
            return best;
        }

        public int unsafe() {
            if (g == null) {
                return -2;
            }
            int bits = 0;
            for (int n = 0; n < nodes(); n++) {
                bits |= !g.dead(n) && mostOf(n).compareTo(Q.of(g.limit)) > 0 ? 1 << n : 0;
            }
            return bits;
        }

        public int tight(int node) {
            if (noNode(node)) {
                return -2;
            }
            if (g.dead(node)) {
                return -1;
            }
            int[] left = new int[4];
            mostAt(node, new int[9], left);
            int bits = 0;
            for (int i = 0; i < 4; i++) {
                bits |= left[i] == 0 ? 1 << i : 0;
            }
            return bits;
        }

        public long share(int node, int by, int what) {
            if (noNode(node) || noNode(by) || noPart(what)) {
                return -2;
            }
            if (g.dead(node) || g.dead(by)) {
                return -1;
            }
            Q drop = drops(g)[node];
            if (drop.above.signum() == 0) {
                return what;
            }
            return drops(alone(by))[node].times(Q.of(g.loads[by])).by(drop).part(what);
        }

        public int feeder(int node, int i) {
            if (noNode(node) || i < 0) {
                return -2;
            }
            List<Integer> way = new ArrayList<>(List.of(node));
            while (!g.pads[way.get(way.size() - 1)]) {
                int at = way.get(way.size() - 1);
                Q most = Q.ZERO;
                int next = -1;
                for (int s = 0; s < straps(); s++) {
                    if (g.to[s] == at && goes(g, s).compareTo(most) > 0) {
                        most = goes(g, s);
                        next = g.from[s];
                    }
                    if (g.from[s] == at && Q.ZERO.minus(goes(g, s)).compareTo(most) > 0) {
                        most = Q.ZERO.minus(goes(g, s));
                        next = g.to[s];
                    }
                }
                if (next < 0) {
                    break;
                }
                way.add(next);
            }
            return i < way.size() ? way.get(i) : -1;
        }

        public int parts() {
            if (g == null) {
                return -2;
            }
            int parts = 0;
            for (int n = 0; n < nodes(); n++) {
                boolean[] seen = g.reach(n);
                boolean first = true;
                for (int other = 0; other < n; other++) {
                    first &= !seen[other];
                }
                parts += first ? 1 : 0;
            }
            return parts;
        }

        public int reached(int node) {
            if (noNode(node)) {
                return -2;
            }
            int bits = 0;
            boolean[] seen = g.reach(node);
            for (int n = 0; n < nodes(); n++) {
                bits |= seen[n] ? 1 << n : 0;
            }
            return bits;
        }

        // ---- HEAT and YEARS

        private Q heatOf(State state, int strap) {
            return state.widths[strap] == 0 ? Q.ZERO : goes(state, strap).size().by(Q.of(state.widths[strap]));
        }

        private int wears(State state) {
            int bits = 0;
            for (int s = 0; s < straps(); s++) {
                bits |= heatOf(state, s).compareTo(Q.of(state.wear)) > 0 ? 1 << s : 0;
            }
            return bits;
        }

        private State later(State state) {
            State next = state.copy();
            int bits = wears(state);
            for (int s = 0; s < straps(); s++) {
                next.widths[s] -= bits >> s & 1;
            }
            return next;
        }

        public long heat(int strap, int what) {
            return noStrap(strap) || noPart(what) ? -2 : heatOf(g, strap).part(what);
        }

        public int hottest() {
            if (g == null) {
                return -2;
            }
            Q most = Q.ZERO;
            int best = -1;
            for (int s = 0; s < straps(); s++) {
                if (heatOf(g, s).compareTo(most) > 0) {
                    most = heatOf(g, s);
                    best = s;
                }
            }
            return best;
        }

        public int wearing() {
            return g == null ? -2 : wears(g);
        }

        private State after(int years) {
            State state = g;
            for (int y = 0; y < years; y++) {
                state = later(state);
            }
            return state;
        }

        public int aged(int n, int strap) {
            return noStrap(strap) || n < 0 || n > 100 ? -2 : after(n).widths[strap];
        }

        public int lasts() {
            if (g == null) {
                return -2;
            }
            State state = g;
            for (int y = 0; y < 60; y++) {
                if (!holdsFor(state)) {
                    return y;
                }
                state = later(state);
            }
            return -1;
        }

        public int worn(int strap) {
            if (noStrap(strap)) {
                return -2;
            }
            State state = g;
            for (int y = 0; y < 60; y++) {
                if (state.widths[strap] == 0) {
                    return y;
                }
                state = later(state);
            }
            return -1;
        }

        public int calms() {
            if (g == null) {
                return -2;
            }
            int y = 0;
            for (State state = g; wears(state) != 0; state = later(state)) {
                y++;
            }
            return y;
        }

        // ---- PADS more

        private State padsToo(int bits) {
            State state = g.copy();
            for (int n = 0; n < nodes(); n++) {
                state.pads[n] |= (bits >> n & 1) == 1;
            }
            return state;
        }

        public int pad(int i) {
            if (g == null || i < 0) {
                return -2;
            }
            int bits = 0;
            int last = -1;
            for (int turn = 0; turn <= i; turn++) {
                last = -1;
                Score best = null;
                for (int n = 0; n < nodes(); n++) {
                    if (!g.pads[n] && (bits >> n & 1) == 0) {
                        Score score = score(padsToo(bits | 1 << n));
                        if (best == null || score.compareTo(best) < 0) {
                            best = score;
                            last = n;
                        }
                    }
                }
                if (last < 0) {
                    return -1;
                }
                bits |= 1 << last;
            }
            return last;
        }

        public int pads(int n) {
            if (g == null || n < 0 || n > 9) {
                return -2;
            }
            int best = -1;
            Score bestScore = null;
            for (int set = (1 << nodes()) - 1; set >= 0; set--) {
                boolean fits = Integer.bitCount(set) == n;
                for (int node = 0; node < nodes(); node++) {
                    fits &= !(g.pads[node] && (set >> node & 1) == 1);
                }
                if (fits && (best < 0 || score(padsToo(set)).compareTo(bestScore) <= 0)) {
                    best = set;
                    bestScore = score(padsToo(set));
                }
            }
            return best;
        }

        public long padded(int n, int what) {
            if (g == null || n < 0 || n > 9 || noPart(what)) {
                return -2;
            }
            int set = pads(n);
            return set < 0 ? -1 : score(padsToo(set)).drop.part(what);
        }

        public int enough() {
            if (g == null) {
                return -2;
            }
            for (int n = 0; n <= 9; n++) {
                int set = pads(n);
                if (set >= 0 && holdsFor(padsToo(set))) {
                    return n;
                }
            }
            return -1;
        }

        // ---- STRAPS wider

        private State greedyWide(List<Integer> steps) {
            State state = g;
            while (!holdsFor(state) && steps.size() < 20) {
                int best = -1;
                for (int s = straps() - 1; s >= 0; s--) {
                    if (state.widths[s] < 4
                        && (best < 0 || score(state.widened(s, 1)).compareTo(score(state.widened(best, 1))) <= 0)) {
                        best = s;
                    }
                }
                if (best < 0 || score(state.widened(best, 1)).compareTo(score(state)) >= 0) {
                    break;
                }
                state = state.widened(best, 1);
                steps.add(best);
            }
            return state;
        }

        public int widens() {
            if (g == null) {
                return -2;
            }
            List<Integer> steps = new ArrayList<>();
            greedyWide(steps);
            return steps.size();
        }

        public int widen(int i) {
            if (g == null || i < 0) {
                return -2;
            }
            List<Integer> steps = new ArrayList<>();
            greedyWide(steps);
            return i < steps.size() ? steps.get(i) : -1;
        }

        public int wide() {
            return g == null ? -2 : holdsFor(greedyWide(new ArrayList<>())) ? 1 : 0;
        }

        private List<Integer> leastFrom(State state, int first, int left) {
            if (left == 0) {
                return holdsFor(state) ? new ArrayList<>() : null;
            }
            for (int s = first; s < straps(); s++) {
                if (state.widths[s] < 4) {
                    List<Integer> rest = leastFrom(state.widened(s, 1), s, left - 1);
                    if (rest != null) {
                        rest.add(0, s);
                        return rest;
                    }
                }
            }
            return null;
        }

        private List<Integer> leastSteps() {
            for (int n = 0; n < 4; n++) {
                List<Integer> steps = leastFrom(g, 0, n);
                if (steps != null) {
                    return steps;
                }
            }
            return null;
        }

        public int fewest() {
            if (g == null) {
                return -2;
            }
            List<Integer> steps = leastSteps();
            return steps == null ? -1 : steps.size();
        }

        public int few(int i) {
            if (g == null || i < 0) {
                return -2;
            }
            List<Integer> steps = leastSteps();
            return steps == null || i >= steps.size() ? -1 : steps.get(i);
        }

        /** Null if it does not HOLD now; else the widths, and behind them how many times. */
        private int[] slimmed() {
            if (!holdsFor(g)) {
                return null;
            }
            State state = g;
            int times = 0;
            while (true) {
                State best = null;
                for (int s = 0; s < straps(); s++) {
                    if (state.widths[s] > 0) {
                        State less = state.widened(s, -1);
                        if (holdsFor(less) && (best == null || score(less).compareTo(score(best)) < 0)) {
                            best = less;
                        }
                    }
                }
                if (best == null) {
                    int[] answer = Arrays.copyOf(state.widths, straps() + 1);
                    answer[straps()] = times;
                    return answer;
                }
                state = best;
                times++;
            }
        }

        public int slims() {
            if (g == null) {
                return -2;
            }
            int[] slim = slimmed();
            return slim == null ? -1 : slim[straps()];
        }

        public int slim(int strap) {
            if (noStrap(strap)) {
                return -2;
            }
            int[] slim = slimmed();
            return slim == null ? -1 : slim[strap];
        }

        // ---- STRAPS lost

        private State less(State state, int strap) {
            return state.widened(strap, -state.widths[strap]);
        }

        public long without(int strap, int what) {
            return noStrap(strap) || noPart(what) ? -2 : score(less(g, strap)).drop.part(what);
        }

        public int lost(int strap) {
            if (noStrap(strap)) {
                return -2;
            }
            int bits = 0;
            for (int n = 0; n < nodes(); n++) {
                bits |= less(g, strap).dead(n) ? 1 << n : 0;
            }
            return bits;
        }

        public int vital() {
            if (g == null) {
                return -2;
            }
            int best = -1;
            for (int s = straps() - 1; s >= 0; s--) {
                if (g.widths[s] > 0 && (best < 0 || score(less(g, s)).compareTo(score(less(g, best))) >= 0)) {
                    best = s;
                }
            }
            return best;
        }

        public int spare() {
            if (g == null) {
                return -2;
            }
            int bits = 0;
            for (int s = 0; s < straps(); s++) {
                bits |= g.widths[s] > 0 && holdsFor(less(g, s)) ? 1 << s : 0;
            }
            return bits;
        }

        private List<Integer> pairList() {
            List<Integer> pairs = new ArrayList<>();
            for (int s = 0; s < straps(); s++) {
                for (int t = s + 1; t < straps(); t++) {
                    boolean there = g.widths[s] > 0 && g.widths[t] > 0;
                    if (there && holdsFor(less(g, s)) && holdsFor(less(g, t)) && !holdsFor(less(less(g, s), t))) {
                        pairs.add(100 * s + t);
                    }
                }
            }
            return pairs;
        }

        public int pairs() {
            return g == null ? -2 : pairList().size();
        }

        public int pair(int i) {
            if (g == null || i < 0) {
                return -2;
            }
            List<Integer> pairs = pairList();
            return i < pairs.size() ? pairs.get(i) : -1;
        }

        // ---- other LOADS

        private List<State> played(int seed, int n) {
            List<State> states = new ArrayList<>();
            BigInteger x = BigInteger.valueOf(seed);
            for (int i = 0; i < n; i++) {
                State state = g.copy();
                for (int node = 0; node < nodes(); node++) {
                    x = x.multiply(BigInteger.valueOf(1103515245)).add(BigInteger.valueOf(12345)).mod(BigInteger.TWO.pow(31));
                    state.loads[node] = x.divide(BigInteger.valueOf(65536)).mod(BigInteger.valueOf(g.loads[node] + 1)).intValue();
                }
                states.add(state);
            }
            return states;
        }

        public int chance(int seed, int n) {
            if (g == null || seed < 0 || n < 1 || n > 100) {
                return -2;
            }
            return (int) played(seed, n).stream().filter(this::holdsFor).count();
        }

        public long luck(int seed, int n, int what) {
            if (g == null || seed < 0 || n < 1 || n > 100 || noPart(what)) {
                return -2;
            }
            Q most = Q.ZERO;
            for (State state : played(seed, n)) {
                Q drop = score(state).drop;
                most = drop.compareTo(most) > 0 ? drop : most;
            }
            return most.part(what);
        }

        public int room(int node) {
            if (noNode(node)) {
                return -2;
            }
            for (int n = 99; n >= 0; n--) {
                State state = g.copy();
                state.loads[node] = n;
                if (holdsFor(state)) {
                    return n;
                }
            }
            return -1;
        }

        // ---- acts

        public int lay(int strap, int n) {
            if (noStrap(strap) || n < 0 || n > 4) {
                return -2;
            }
            int was = g.widths[strap];
            if (was == n || acts.size() == 20) {
                return -5;
            }
            acts.add(new Act(0, was, g.copy()));
            g.widths[strap] = n;
            return was;
        }

        public int feeds(int node) {
            if (noNode(node)) {
                return -2;
            }
            if (acts.size() == 20) {
                return -5;
            }
            acts.add(new Act(1, 0, g.copy()));
            g.pads[node] = !g.pads[node];
            int pads = 0;
            for (boolean pad : g.pads) {
                pads += pad ? 1 : 0;
            }
            return pads;
        }

        public int draw(int node, int n) {
            if (noNode(node) || n < 0 || n > 99) {
                return -2;
            }
            int was = g.loads[node];
            if (was == n || acts.size() == 20) {
                return -5;
            }
            acts.add(new Act(2, was, g.copy()));
            g.loads[node] = n;
            return was;
        }

        public int year() {
            if (g == null) {
                return -2;
            }
            if (acts.size() == 20) {
                return -5;
            }
            int wore = Integer.bitCount(wears(g));
            acts.add(new Act(3, wore, g.copy()));
            g = later(g);
            return wore;
        }

        public int did(int kind, int what) {
            if (g == null || kind < 0 || kind > 3 || noPart(what)) {
                return -2;
            }
            return acts.stream().filter(act -> act.kind == kind).mapToInt(act -> what == 0 ? 1 : act.answer).sum();
        }

        public int image(int k) {
            if (k < 0 || k > 2) {
                return -2;
            }
            images[k] = new Kept(g == null ? null : g.copy(), new ArrayList<>(acts));
            return 0;
        }

        public int back(int k) {
            if (k < 0 || k > 2) {
                return -2;
            }
            if (images[k] == null) {
                return -6;
            }
            g = images[k].state == null ? null : images[k].state.copy();
            acts = new ArrayList<>(images[k].acts);
            return 0;
        }

        public int undo() {
            if (g == null) {
                return -2;
            }
            if (acts.isEmpty()) {
                return -5;
            }
            g = acts.remove(acts.size() - 1).before.copy();
            return acts.size();
        }

        public int anew() {
            if (g == null) {
                return -2;
            }
            int were = acts.size();
            if (were > 0) {
                g = acts.get(0).before.copy();
                acts.clear();
            }
            return were;
        }
    }

    /** Reads tokens by templates of lines: a word, "N low high name", or "?" ahead of what may be left out. */
    private static final class TextModel {
        private final List<String> tokens;
        private final State state = new State();
        int at = 0;
        int fault = 0;

        TextModel(List<String> tokens) {
            this.tokens = tokens;
        }

        State parse() {
            while (!tokens.get(at).equals("$") || at < tokens.size() - 1) {
                String head = tokens.get(at);
                boolean first = state.lines == 0;
                if (first != head.equals("grid") || !List.of("grid", "strap", "pad", "load", "budget").contains(head)) {
                    fault = 1;
                    return state;
                }
                Map<String, Integer> values = new HashMap<>();
                for (String item : template(head)) {
                    String token = tokens.get(at);
                    if (item.equals("[group")) {
                        if (!token.equals("group")) {
                            at++;
                            values.put("skip", 1);
                            at--;
                        }
                        if (token.equals("group")) {
                            at++;
                        }
                        continue;
                    }
                    if (item.startsWith("N group") && values.containsKey("skip")) {
                        continue;
                    }
                    fault = check(item, token, values);
                    if (fault != 0) {
                        return state;
                    }
                    at++;
                }
                apply(head, values);
                state.lines++;
            }
            return state;
        }

        private List<String> template(String head) {
            switch (head) {
                case "grid": return List.of("grid", "columns", "N C 1 9", "rows", "N R 1 9", "width", "N width 0 4", "limit", "N limit 0 999", "wear", "N wear 1 999", ";");
                case "strap": return List.of("strap", "at", "N x 0 9", "N y 0 9", "way", "width", "N width 0 4", ";");
                case "pad": return List.of("pad", "at", "N x 0 9", "N y 0 9", ";");
                case "load": return List.of("load", "at", "N x 0 9", "N y 0 9", "draws", "N draws 1 99", "[group", "N group 1 3", ";");
                default: return List.of("budget", "N of 0 3", "is", "N budget 0 999", ";");
            }
        }

        private final boolean[] told = new boolean[4];
        private final List<Integer> loaded = new ArrayList<>();

        private int check(String item, String token, Map<String, Integer> values) {
            String head = "";
            for (int i = at; i >= 0 && (i == at || !tokens.get(i).equals(";")); i--) {
                head = tokens.get(i);
            }
            if (item.equals("way")) {
                if (!token.equals("east") && !token.equals("south")) {
                    return 1;
                }
                values.put("east", token.equals("east") ? 1 : 0);
                boolean there = token.equals("east") ? values.get("x") < state.columns - 1 : values.get("y") < state.rows - 1;
                return there ? 0 : 2;
            }
            if (!item.startsWith("N ")) {
                return item.equals(token) && !(at == tokens.size() - 1) ? 0 : 1;
            }
            if (!token.matches("[0-9]+")) {
                return 1;
            }
            String[] words = item.split(" ");
            BigInteger number = new BigInteger(token);
            int high = words[1].equals("x") ? state.columns - 1 : words[1].equals("y") ? state.rows - 1 : Integer.parseInt(words[3]);
            if (number.compareTo(new BigInteger(words[2])) < 0 || number.compareTo(BigInteger.valueOf(high)) > 0) {
                return 2;
            }
            values.put(words[1], number.intValue());
            if (words[1].equals("R") && values.get("R") * values.get("C") > 9) {
                return 2;
            }
            if (words[1].equals("y") && !head.equals("strap")) {
                int node = values.get("y") * state.columns + values.get("x");
                return head.equals("pad") && state.pads[node] || head.equals("load") && loaded.contains(node) ? 2 : 0;
            }
            return words[1].equals("of") && told[number.intValue()] ? 2 : 0;
        }

        private void apply(String head, Map<String, Integer> values) {
            if (head.equals("grid")) {
                lay(values);
                return;
            }
            if (head.equals("budget")) {
                told[values.get("of")] = true;
                state.budgets[values.get("of")] = values.get("budget");
                return;
            }
            int node = values.get("y") * state.columns + values.get("x");
            if (head.equals("pad")) {
                state.pads[node] = true;
            } else if (head.equals("load")) {
                loaded.add(node);
                state.loads[node] = values.get("draws");
                state.groups[node] = values.getOrDefault("group", 0);
            } else {
                int other = values.get("east") == 1 ? node + 1 : node + state.columns;
                for (int s = 0; s < state.from.length; s++) {
                    if (state.from[s] == node && state.to[s] == other) {
                        state.widths[s] = values.get("width");
                    }
                }
            }
        }

        private void lay(Map<String, Integer> values) {
            state.columns = values.get("C");
            state.rows = values.get("R");
            state.limit = values.get("limit");
            state.wear = values.get("wear");
            List<int[]> straps = new ArrayList<>();
            for (int n = 0; n < state.nodes(); n++) {
                if (n % state.columns < state.columns - 1) {
                    straps.add(new int[] {n, n + 1});
                }
                if (n + state.columns < state.nodes()) {
                    straps.add(new int[] {n, n + state.columns});
                }
            }
            state.from = straps.stream().mapToInt(s -> s[0]).toArray();
            state.to = straps.stream().mapToInt(s -> s[1]).toArray();
            state.widths = new int[straps.size()];
            Arrays.fill(state.widths, values.get("width"));
            state.pads = new boolean[state.nodes()];
            state.loads = new int[state.nodes()];
            state.groups = new int[state.nodes()];
        }
    }
}
