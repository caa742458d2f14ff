import java.util.Arrays;

/** A supply grid told as a text; ../shared/DOC.md says what each call answers. */
public final class SupplyGrid {
    public static final int NONE = -1;

    private static final int NO_SUCH = -2;
    private static final int FAULTY = -4;
    private static final int REFUSED = -5;
    private static final int NOTHING_KEPT = -6;
    private static final long NO_STRAP = -1L << 63;

    private static final int MOST_NODES = 9;
    private static final int MOST_STRAPS = 12;
    private static final int MOST_WIDTH = 4;
    private static final int MOST_DRAW = 99;
    private static final int MOST_BUDGET = 999;
    private static final int MOST_LIMIT = 999;
    private static final int MOST_WEAR = 999;
    private static final int LAST_YEAR = 100;
    private static final int MOST_TIMES = 100;
    private static final int MOST_ACTS = 20;
    private static final int MOST_STEPS = 20;
    private static final int MOST_LEAST = 3;
    private static final int MOST_YEARS = MOST_STRAPS * MOST_WIDTH;
    private static final int MOST_PAIRS = MOST_STRAPS * (MOST_STRAPS - 1) / 2;
    private static final int BUDGETS = 4;
    private static final int IMAGES = 3;
    private static final int TAPE_BYTES = 700;

    private static final int LAID = 0;
    private static final int FED = 1;
    private static final int DREW = 2;
    private static final int AGED = 3;

    private final Reader reader = new Reader();
    private final Net net = new Net();
    private final Net[] images = new Net[IMAGES];
    private final boolean[] kept = new boolean[IMAGES];
    private final Flow present = new Flow();
    private boolean presentKnown = false;
    private final Flow trial = new Flow();
    private final Bounded bounded = new Bounded();
    private final Years years = new Years();
    private final PadSearch padSearch = new PadSearch();
    private final StrapSearch strapSearch = new StrapSearch();
    private final LossSearch lossSearch = new LossSearch();
    private final LoadTrials loadTrials = new LoadTrials();

    public SupplyGrid() {
        for (int k = 0; k < IMAGES; k++) {
            images[k] = new Net();
        }
    }

    // ---- the tape and the text (promises 2 to 5)

    public int feed(int a, int b, int c, int d, int e) {
        if (reader.size + 20 > TAPE_BYTES) {
            return NONE;
        }
        reader.putBytes(a);
        reader.putBytes(b);
        reader.putBytes(c);
        reader.putBytes(d);
        reader.putBytes(e);
        return reader.size;
    }

    public int end(int n) {
        if (n < 0 || n > reader.size) {
            return NONE;
        }
        reader.size = n;
        return n;
    }

    public int grid() {
        boolean read = reader.readText();
        reader.size = 0;
        if (!read) {
            return FAULTY;
        }
        net.copyFrom(reader.draft);
        forget();
        return net.lines;
    }

    public int fault(int what) {
        if (what == 0) {
            return reader.wrong;
        }
        return what == 1 ? reader.wrongAt : NONE;
    }

    // ---- what the GRID is (promises 6 to 10)

    public int count(int what) {
        switch (what) {
            case 0: return net.columns;
            case 1: return net.rows;
            case 2: return net.limit;
            case 3: return net.wear;
            case 4: return net.straps;
            case 5: return net.acts;
            case 6: return net.lines;
            case 7: return reader.size;
            case 8: return net.padBits;
            case 9: return now().deadBits;
            default: return NONE;
        }
    }

    public int strap(int strap, int what) {
        if (!hasStrap(strap)) {
            return NONE;
        }
        switch (what) {
            case 0: return net.starts[strap];
            case 1: return net.ends[strap];
            case 2: return net.widths[strap];
            default: return NONE;
        }
    }

    public int between(int node, int other) {
        if (!hasNode(node) || !hasNode(other)) {
            return NO_SUCH;
        }
        return net.strapJoining(node, other);
    }

    public int node(int node, int what) {
        if (!hasNode(node)) {
            return NONE;
        }
        switch (what) {
            case 0: return net.isPad(node) ? 1 : 0;
            case 1: return net.loads[node];
            case 2: return net.groups[node];
            case 3: return now().isDead(node) ? 1 : 0;
            default: return NONE;
        }
    }

    public int budget(int group) {
        if (noGrid() || group < 0 || group >= BUDGETS) {
            return NONE;
        }
        return net.budgets[group];
    }

    // ---- DROPS and what goes where (promises 11 to 21)

    public long drop(int node, int what) {
        if (!hasNode(node) || !isPart(what)) {
            return NO_SUCH;
        }
        Flow flow = now();
        return flow.isDead(node) ? NONE : partOf(flow.above[node], flow.below, what);
    }

    public long through(int strap, int what) {
        if (!hasStrap(strap) || !isPart(what)) {
            return NO_STRAP;
        }
        Flow flow = now();
        long goes = net.widths[strap] * flow.rise(net, strap);
        return partOf(goes, flow.below, what);
    }

    public long gives(int node, int what) {
        if (!hasNode(node) || !isPart(what)) {
            return NO_SUCH;
        }
        if (!net.isPad(node)) {
            return NONE;
        }
        Flow flow = now();
        return partOf(flow.givenBy(net, node), flow.below, what);
    }

    public int chief() {
        if (noGrid()) {
            return NO_SUCH;
        }
        Flow flow = now();
        int chosen = NONE;
        long greatest = 0;
        for (int node = 0; node < net.nodes; node++) {
            if (net.isPad(node)) {
                long given = flow.givenBy(net, node);
                if (chosen == NONE || given > greatest) {
                    chosen = node;
                    greatest = given;
                }
            }
        }
        return chosen;
    }

    public int area() {
        if (noGrid()) {
            return NO_SUCH;
        }
        int sum = 0;
        for (int s = 0; s < net.straps; s++) {
            sum += net.widths[s];
        }
        return sum;
    }

    public int worst() {
        if (noGrid()) {
            return NO_SUCH;
        }
        Flow flow = now();
        int chosen = NONE;
        long greatest = 0;
        for (int node = 0; node < net.nodes; node++) {
            if (!flow.isDead(node) && (chosen == NONE || flow.above[node] > greatest)) {
                chosen = node;
                greatest = flow.above[node];
            }
        }
        return chosen;
    }

    public int over() {
        if (noGrid()) {
            return NO_SUCH;
        }
        Flow flow = now();
        int bits = 0;
        for (int node = 0; node < net.nodes; node++) {
            if (flow.above[node] > net.limit * flow.below) {
                bits |= 1 << node;
            }
        }
        return bits;
    }

    public int holds() {
        if (noGrid()) {
            return NO_SUCH;
        }
        return now().score.isWithin(net.limit) ? 1 : 0;
    }

    public long loss(int what) {
        if (noGrid() || !isPart(what)) {
            return NO_SUCH;
        }
        Flow flow = now();
        long sum = 0;
        for (int node = 0; node < net.nodes; node++) {
            sum += net.loads[node] * flow.above[node];
        }
        return partOf(sum, flow.below, what);
    }

    public long moves(int node, int by, int what) {
        if (!hasNode(node) || !hasNode(by) || !isPart(what)) {
            return NO_SUCH;
        }
        if (now().isDead(node) || now().isDead(by)) {
            return NONE;
        }
        trial.settleUnit(net, net.padBits, by);
        return partOf(trial.above[node], trial.below, what);
    }

    public long resists(int node, int other, int what) {
        if (!hasNode(node) || !hasNode(other) || !isPart(what)) {
            return NO_SUCH;
        }
        // Held at the first NODE, as if that were the only PAD, the second one's DROP is the difference.
        trial.settleUnit(net, 1 << node, other);
        return trial.isDead(other) ? NONE : partOf(trial.above[other], trial.below, what);
    }

    // ---- the worst within bounds (promises 22 to 26)

    public long most(int node, int what) {
        if (!hasNode(node) || !isPart(what)) {
            return NO_SUCH;
        }
        if (now().isDead(node)) {
            return NONE;
        }
        bounded.drawAgainst(net, node);
        return partOf(bounded.above, bounded.below, what);
    }

    public int drawn(int node, int other) {
        if (!hasNode(node) || !hasNode(other)) {
            return NO_SUCH;
        }
        if (now().isDead(node)) {
            return NONE;
        }
        bounded.drawAgainst(net, node);
        return bounded.draws[other];
    }

    public int foe() {
        if (noGrid()) {
            return NO_SUCH;
        }
        int chosen = NONE;
        long above = 0;
        long below = 1;
        for (int node = 0; node < net.nodes; node++) {
            if (!now().isDead(node)) {
                bounded.drawAgainst(net, node);
                if (chosen == NONE || bounded.above * below > above * bounded.below) {
                    chosen = node;
                    above = bounded.above;
                    below = bounded.below;
                }
            }
        }
        return chosen;
    }

    public int unsafe() {
        if (noGrid()) {
            return NO_SUCH;
        }
        int bits = 0;
        for (int node = 0; node < net.nodes; node++) {
            if (!now().isDead(node)) {
                bounded.drawAgainst(net, node);
                if (bounded.above > net.limit * bounded.below) {
                    bits |= 1 << node;
                }
            }
        }
        return bits;
    }

    public int tight(int node) {
        if (!hasNode(node)) {
            return NO_SUCH;
        }
        if (now().isDead(node)) {
            return NONE;
        }
        bounded.drawAgainst(net, node);
        int bits = 0;
        for (int group = 0; group < BUDGETS; group++) {
            if (bounded.left[group] == 0) {
                bits |= 1 << group;
            }
        }
        return bits;
    }

    // ---- where a DROP is from (promises 27 to 30)

    public long share(int node, int by, int what) {
        if (!hasNode(node) || !hasNode(by) || !isPart(what)) {
            return NO_SUCH;
        }
        if (now().isDead(node) || now().isDead(by)) {
            return NONE;
        }
        // What 1 at the NODE does to another one is what 1 at that one does to the NODE.
        trial.settleUnit(net, net.padBits, node);
        long whole = 0;
        for (int n = 0; n < net.nodes; n++) {
            whole += net.loads[n] * trial.above[n];
        }
        if (whole == 0) {
            return partOf(0, 1, what);
        }
        return partOf(net.loads[by] * trial.above[by], whole, what);
    }

    public int feeder(int node, int i) {
        if (!hasNode(node) || i < 0) {
            return NO_SUCH;
        }
        if (i >= net.nodes) {
            return NONE;
        }
        int at = node;
        for (int step = 0; step < i && at != NONE; step++) {
            at = fedFrom(at);
        }
        return at;
    }

    private int fedFrom(int node) {
        if (net.isPad(node)) {
            return NONE;
        }
        Flow flow = now();
        int from = NONE;
        long greatest = 0;
        for (int s = 0; s < net.straps; s++) {
            boolean comes = net.ends[s] == node;
            if (comes || net.starts[s] == node) {
                long goes = net.widths[s] * flow.rise(net, s);
                long inflow = comes ? goes : -goes;
                if (inflow > greatest) {
                    greatest = inflow;
                    from = comes ? net.starts[s] : net.ends[s];
                }
            }
        }
        return from;
    }

    public int parts() {
        if (noGrid()) {
            return NO_SUCH;
        }
        int seen = 0;
        int sum = 0;
        for (int node = 0; node < net.nodes; node++) {
            if ((seen >> node & 1) == 0) {
                seen |= net.spread(net.widths, 1 << node);
                sum++;
            }
        }
        return sum;
    }

    public int reached(int node) {
        if (!hasNode(node)) {
            return NO_SUCH;
        }
        return net.spread(net.widths, 1 << node);
    }

    // ---- HEAT and YEARS (promises 31 to 37)

    public long heat(int strap, int what) {
        if (!hasStrap(strap) || !isPart(what)) {
            return NO_SUCH;
        }
        Flow flow = now();
        return partOf(flow.heatAbove(net, net.widths, strap), flow.below, what);
    }

    public int hottest() {
        if (noGrid()) {
            return NO_SUCH;
        }
        Flow flow = now();
        int chosen = NONE;
        long greatest = 0;
        for (int s = 0; s < net.straps; s++) {
            long above = flow.heatAbove(net, net.widths, s);
            if (above > greatest) {
                chosen = s;
                greatest = above;
            }
        }
        return chosen;
    }

    public int wearing() {
        if (noGrid()) {
            return NO_SUCH;
        }
        return now().wearBits(net, net.widths);
    }

    public int aged(int n, int strap) {
        if (!hasStrap(strap) || n < 0 || n > LAST_YEAR) {
            return NO_SUCH;
        }
        years.look(net);
        return years.widths[Math.min(n, years.calm)][strap];
    }

    public int lasts() {
        if (noGrid()) {
            return NO_SUCH;
        }
        years.look(net);
        return years.firstFailed;
    }

    public int worn(int strap) {
        if (!hasStrap(strap)) {
            return NO_SUCH;
        }
        years.look(net);
        for (int y = 0; y <= years.calm; y++) {
            if (years.widths[y][strap] == 0) {
                return y;
            }
        }
        return NONE;
    }

    public int calms() {
        if (noGrid()) {
            return NO_SUCH;
        }
        years.look(net);
        return years.calm;
    }

    // ---- PADS more (promises 38 to 41)

    public int pad(int i) {
        if (noGrid() || i < 0) {
            return NO_SUCH;
        }
        padSearch.lookGreedy(net);
        return i < padSearch.greedyCount ? padSearch.greedy[i] : NONE;
    }

    public int pads(int n) {
        if (noGrid() || n < 0 || n > MOST_NODES) {
            return NO_SUCH;
        }
        return padSearch.bestSet(net, n);
    }

    public long padded(int n, int what) {
        if (noGrid() || n < 0 || n > MOST_NODES || !isPart(what)) {
            return NO_SUCH;
        }
        if (padSearch.bestSet(net, n) == NONE) {
            return NONE;
        }
        Score score = padSearch.setScores[n];
        return partOf(score.above, score.below, what);
    }

    public int enough() {
        if (noGrid()) {
            return NO_SUCH;
        }
        for (int n = 0; n <= MOST_NODES; n++) {
            if (padSearch.bestSet(net, n) != NONE && padSearch.setScores[n].isWithin(net.limit)) {
                return n;
            }
        }
        return NONE;
    }

    // ---- STRAPS wider and less wide (promises 42 to 48)

    public int widens() {
        if (noGrid()) {
            return NO_SUCH;
        }
        strapSearch.lookGreedy(net);
        return strapSearch.greedyCount;
    }

    public int widen(int i) {
        if (noGrid() || i < 0) {
            return NO_SUCH;
        }
        strapSearch.lookGreedy(net);
        return i < strapSearch.greedyCount ? strapSearch.greedy[i] : NONE;
    }

    public int wide() {
        if (noGrid()) {
            return NO_SUCH;
        }
        strapSearch.lookGreedy(net);
        return strapSearch.greedyHolds ? 1 : 0;
    }

    public int fewest() {
        if (noGrid()) {
            return NO_SUCH;
        }
        strapSearch.lookLeast(net);
        return strapSearch.leastCount;
    }

    public int few(int i) {
        if (noGrid() || i < 0) {
            return NO_SUCH;
        }
        strapSearch.lookLeast(net);
        return i < strapSearch.leastCount ? strapSearch.least[i] : NONE;
    }

    public int slims() {
        if (noGrid()) {
            return NO_SUCH;
        }
        strapSearch.lookSlim(net);
        return strapSearch.slimCount;
    }

    public int slim(int strap) {
        if (!hasStrap(strap)) {
            return NO_SUCH;
        }
        strapSearch.lookSlim(net);
        return strapSearch.slimCount == NONE ? NONE : strapSearch.slimWidths[strap];
    }

    // ---- STRAPS lost (promises 49 to 54)

    public long without(int strap, int what) {
        if (!hasStrap(strap) || !isPart(what)) {
            return NO_SUCH;
        }
        lossSearch.settleWithout(net, strap, strap);
        Score score = lossSearch.flow.score;
        return partOf(score.above, score.below, what);
    }

    public int lost(int strap) {
        if (!hasStrap(strap)) {
            return NO_SUCH;
        }
        lossSearch.settleWithout(net, strap, strap);
        return lossSearch.flow.deadBits;
    }

    public int vital() {
        if (noGrid()) {
            return NO_SUCH;
        }
        lossSearch.lookSingles(net);
        return lossSearch.worstStrap;
    }

    public int spare() {
        if (noGrid()) {
            return NO_SUCH;
        }
        lossSearch.lookSingles(net);
        return lossSearch.spareBits;
    }

    public int pairs() {
        if (noGrid()) {
            return NO_SUCH;
        }
        lossSearch.lookPairs(net);
        return lossSearch.pairCount;
    }

    public int pair(int i) {
        if (noGrid() || i < 0) {
            return NO_SUCH;
        }
        lossSearch.lookPairs(net);
        return i < lossSearch.pairCount ? lossSearch.pairCodes[i] : NONE;
    }

    // ---- other LOADS (promises 55 to 57)

    public int chance(int seed, int n) {
        if (noGrid() || seed < 0 || n < 1 || n > MOST_TIMES) {
            return NO_SUCH;
        }
        loadTrials.play(net, seed, n);
        return loadTrials.held;
    }

    public long luck(int seed, int n, int what) {
        if (noGrid() || seed < 0 || n < 1 || n > MOST_TIMES || !isPart(what)) {
            return NO_SUCH;
        }
        loadTrials.play(net, seed, n);
        return partOf(loadTrials.deepest.above, loadTrials.deepest.below, what);
    }

    public int room(int node) {
        if (!hasNode(node)) {
            return NO_SUCH;
        }
        return loadTrials.greatestDraw(net, node);
    }

    // ---- acts (promises 58 to 62)

    public int lay(int strap, int n) {
        if (!hasStrap(strap) || n < 0 || n > MOST_WIDTH) {
            return NO_SUCH;
        }
        int was = net.widths[strap];
        if (was == n || net.acts >= MOST_ACTS) {
            return REFUSED;
        }
        net.widths[strap] = n;
        net.keepAct(LAID, strap, was);
        forget();
        return was;
    }

    public int feeds(int node) {
        if (!hasNode(node)) {
            return NO_SUCH;
        }
        if (net.acts >= MOST_ACTS) {
            return REFUSED;
        }
        net.padBits ^= 1 << node;
        net.keepAct(FED, node, 0);
        forget();
        return Integer.bitCount(net.padBits);
    }

    public int draw(int node, int n) {
        if (!hasNode(node) || n < 0 || n > MOST_DRAW) {
            return NO_SUCH;
        }
        int was = net.loads[node];
        if (was == n || net.acts >= MOST_ACTS) {
            return REFUSED;
        }
        net.loads[node] = n;
        net.keepAct(DREW, node, was);
        forget();
        return was;
    }

    public int year() {
        if (noGrid()) {
            return NO_SUCH;
        }
        if (net.acts >= MOST_ACTS) {
            return REFUSED;
        }
        int bits = now().wearBits(net, net.widths);
        net.shiftWidths(net.widths, bits, -1);
        int wore = Integer.bitCount(bits);
        net.keepAct(AGED, bits, wore);
        forget();
        return wore;
    }

    public int did(int kind, int what) {
        if (noGrid() || kind < LAID || kind > AGED || !isPart(what)) {
            return NO_SUCH;
        }
        int number = 0;
        int answered = 0;
        for (int i = 0; i < net.acts; i++) {
            if (net.kinds[i] == kind) {
                number++;
                answered += net.answers[i];
            }
        }
        return what == 0 ? number : answered;
    }

    // ---- images and taking back (promises 63 to 66)

    public int image(int k) {
        if (k < 0 || k >= IMAGES) {
            return NO_SUCH;
        }
        images[k].copyFrom(net);
        kept[k] = true;
        return 0;
    }

    public int back(int k) {
        if (k < 0 || k >= IMAGES) {
            return NO_SUCH;
        }
        if (!kept[k]) {
            return NOTHING_KEPT;
        }
        net.copyFrom(images[k]);
        forget();
        return 0;
    }

    public int undo() {
        if (noGrid()) {
            return NO_SUCH;
        }
        if (net.acts == 0) {
            return REFUSED;
        }
        net.takeBack();
        forget();
        return net.acts;
    }

    public int anew() {
        if (noGrid()) {
            return NO_SUCH;
        }
        int were = net.acts;
        for (int i = 0; i < were; i++) {
            net.takeBack();
        }
        forget();
        return were;
    }

    // ---- what the calls share

    private boolean noGrid() {
        return net.nodes == 0;
    }

    private boolean hasNode(int node) {
        return node >= 0 && node < net.nodes;
    }

    private boolean hasStrap(int strap) {
        return strap >= 0 && strap < net.straps;
    }

    private static boolean isPart(int what) {
        return what == 0 || what == 1;
    }

    private Flow now() {
        if (!presentKnown) {
            present.settle(net, net.widths, net.padBits, net.loads);
            presentKnown = true;
        }
        return present;
    }

    /** Every change of the GRID comes through here: what was found for the old one holds no more. */
    private void forget() {
        presentKnown = false;
        years.known = false;
        padSearch.forgetAll();
        strapSearch.forgetAll();
        lossSearch.forgetAll();
    }

    private static long partOf(long above, long below, int what) {
        long divisor = commonDivisor(Math.abs(above), below);
        if (divisor <= 0) {
            return what == 0 ? 0 : 1;
        }
        return what == 0 ? above / divisor : below / divisor;
    }

    private static long commonDivisor(long one, long other) {
        long a = one;
        long b = other;
        // Euclid's way takes fewer than 100 steps for any two longs.
        for (int step = 0; step < 100 && b != 0; step++) {
            long rest = a % b;
            a = b;
            b = rest;
        }
        return a;
    }

    /** The GRID and its acts: all that an IMAGE keeps. Without a GRID it has no nodes. */
    private static final class Net {
        int columns = 0;
        int rows = 0;
        int limit = 0;
        int wear = 0;
        int lines = 0;
        int nodes = 0;
        int straps = 0;
        int padBits = 0;
        int acts = 0;
        final int[] starts = new int[MOST_STRAPS];
        final int[] ends = new int[MOST_STRAPS];
        final int[] widths = new int[MOST_STRAPS];
        final int[] loads = new int[MOST_NODES];
        final int[] groups = new int[MOST_NODES];
        final int[] budgets = new int[BUDGETS];
        final int[] kinds = new int[MOST_ACTS];
        final int[] sites = new int[MOST_ACTS];
        final int[] answers = new int[MOST_ACTS];

        void clear() {
            columns = 0;
            rows = 0;
            limit = 0;
            wear = 0;
            lines = 0;
            nodes = 0;
            straps = 0;
            padBits = 0;
            acts = 0;
            Arrays.fill(widths, 0);
            Arrays.fill(loads, 0);
            Arrays.fill(groups, 0);
            Arrays.fill(budgets, MOST_BUDGET);
        }

        void copyFrom(Net other) {
            columns = other.columns;
            rows = other.rows;
            limit = other.limit;
            wear = other.wear;
            lines = other.lines;
            nodes = other.nodes;
            straps = other.straps;
            padBits = other.padBits;
            acts = other.acts;
            System.arraycopy(other.starts, 0, starts, 0, MOST_STRAPS);
            System.arraycopy(other.ends, 0, ends, 0, MOST_STRAPS);
            System.arraycopy(other.widths, 0, widths, 0, MOST_STRAPS);
            System.arraycopy(other.loads, 0, loads, 0, MOST_NODES);
            System.arraycopy(other.groups, 0, groups, 0, MOST_NODES);
            System.arraycopy(other.budgets, 0, budgets, 0, BUDGETS);
            System.arraycopy(other.kinds, 0, kinds, 0, MOST_ACTS);
            System.arraycopy(other.sites, 0, sites, 0, MOST_ACTS);
            System.arraycopy(other.answers, 0, answers, 0, MOST_ACTS);
        }

        void layOut(int wide, int high, int width) {
            columns = wide;
            rows = high;
            nodes = wide * high;
            straps = 0;
            for (int y = 0; y < high; y++) {
                for (int x = 0; x < wide; x++) {
                    if (x + 1 < wide) {
                        addStrap(y * wide + x, y * wide + x + 1, width);
                    }
                    if (y + 1 < high) {
                        addStrap(y * wide + x, (y + 1) * wide + x, width);
                    }
                }
            }
        }

        private void addStrap(int start, int stop, int width) {
            if (straps < MOST_STRAPS) {
                starts[straps] = start;
                ends[straps] = stop;
                widths[straps] = width;
                straps++;
            }
        }

        int strapJoining(int node, int other) {
            for (int s = 0; s < straps; s++) {
                boolean there = starts[s] == node && ends[s] == other;
                if (there || (starts[s] == other && ends[s] == node)) {
                    return s;
                }
            }
            return NONE;
        }

        boolean isPad(int node) {
            return (padBits >> node & 1) == 1;
        }

        /** All NODES to which one comes from some, by STRAPS of these widths. */
        int spread(int[] byWidths, int fromBits) {
            int bits = fromBits;
            for (int round = 0; round < MOST_NODES; round++) {
                int before = bits;
                for (int s = 0; s < straps; s++) {
                    int both = (1 << starts[s]) | (1 << ends[s]);
                    if (byWidths[s] > 0 && (bits & both) != 0) {
                        bits |= both;
                    }
                }
                if (bits == before) {
                    break;
                }
            }
            return bits;
        }

        void shiftWidths(int[] ofWidths, int strapBits, int by) {
            for (int s = 0; s < straps; s++) {
                if ((strapBits >> s & 1) == 1) {
                    ofWidths[s] += by;
                }
            }
        }

        void keepAct(int kind, int site, int answer) {
            if (acts < MOST_ACTS) {
                kinds[acts] = kind;
                sites[acts] = site;
                answers[acts] = answer;
                acts++;
            }
        }

        /** For year() the site is the STRAPS that wore, as bits; for all others a number of its own. */
        void takeBack() {
            if (acts == 0) {
                return;
            }
            acts--;
            int site = sites[acts];
            if (kinds[acts] == AGED) {
                shiftWidths(widths, site, 1);
            } else if (kinds[acts] == LAID && site < straps) {
                widths[site] = answers[acts];
            } else if (kinds[acts] == FED) {
                padBits ^= 1 << site;
            } else if (kinds[acts] == DREW && site < nodes) {
                loads[site] = answers[acts];
            }
        }
    }

    /** The TAPE, read TOKEN by TOKEN: the first FAULT that it comes to is the first by its place. */
    private static final class Reader {
        private static final int STOP = 0;
        private static final int WORD = 1;
        private static final int NUMBER = 2;
        private static final int SIGN = 3;
        private static final int BLANK = 4;
        private static final int STRANGE = 5;
        private static final int HUGE = 100000;

        int size = 0;
        int wrong = 0;
        int wrongAt = NONE;
        final Net draft = new Net();
        private final int[] bytes = new int[TAPE_BYTES];
        private int kind = STOP;
        private int first = 0;
        private int behind = 0;
        private int value = 0;
        private int x = 0;
        private int y = 0;
        private int site = 0;
        private int budgetsTold = 0;

        void putBytes(int number) {
            for (int shift = 24; shift >= 0 && size < TAPE_BYTES; shift -= 8) {
                bytes[size] = number >>> shift & 255;
                size++;
            }
        }

        boolean readText() {
            draft.clear();
            wrong = 0;
            wrongAt = NONE;
            behind = 0;
            budgetsTold = 0;
            boolean fine = true;
            for (int line = 0; line <= TAPE_BYTES && fine; line++) {
                step();
                if (kind == STOP) {
                    return true;
                }
                if (line == 0) {
                    fine = isWord("grid") ? readGrid() : fail(1);
                } else if (isWord("strap")) {
                    fine = readStrap();
                } else if (isWord("pad")) {
                    fine = readPad();
                } else if (isWord("load")) {
                    fine = readLoad();
                } else {
                    fine = isWord("budget") ? readBudget() : fail(1);
                }
                draft.lines++;
            }
            return fine;
        }

        private boolean readGrid() {
            if (!needNumber("columns", 1, MOST_NODES)) {
                return false;
            }
            int wide = value;
            if (!needNumber("rows", 1, MOST_NODES)) {
                return false;
            }
            int high = value;
            if (wide * high > MOST_NODES) {
                return fail(2);
            }
            if (!needNumber("width", 0, MOST_WIDTH)) {
                return false;
            }
            draft.layOut(wide, high, value);
            if (!needNumber("limit", 0, MOST_LIMIT)) {
                return false;
            }
            draft.limit = value;
            if (!needNumber("wear", 1, MOST_WEAR)) {
                return false;
            }
            draft.wear = value;
            return needSign();
        }

        private boolean readStrap() {
            if (!needPlace()) {
                return false;
            }
            step();
            boolean east = isWord("east");
            if (!east && !isWord("south")) {
                return fail(1);
            }
            boolean room = east ? x + 1 < draft.columns : y + 1 < draft.rows;
            int strap = room ? draft.strapJoining(site, east ? site + 1 : site + draft.columns) : NONE;
            if (strap == NONE) {
                return fail(2);
            }
            if (!needNumber("width", 0, MOST_WIDTH)) {
                return false;
            }
            draft.widths[strap] = value;
            return needSign();
        }

        private boolean readPad() {
            if (!needPlace()) {
                return false;
            }
            if (draft.isPad(site)) {
                return fail(2);
            }
            draft.padBits |= 1 << site;
            return needSign();
        }

        private boolean readLoad() {
            if (!needPlace()) {
                return false;
            }
            // A LOAD that was told draws 1 at least.
            if (draft.loads[site] > 0) {
                return fail(2);
            }
            if (!needNumber("draws", 1, MOST_DRAW)) {
                return false;
            }
            draft.loads[site] = value;
            step();
            if (isWord("group")) {
                if (!needBounds(1, BUDGETS - 1)) {
                    return false;
                }
                draft.groups[site] = value;
                step();
            }
            return kind == SIGN || fail(1);
        }

        private boolean readBudget() {
            if (!needBounds(0, BUDGETS - 1)) {
                return false;
            }
            int group = value;
            if ((budgetsTold >> group & 1) == 1) {
                return fail(2);
            }
            budgetsTold |= 1 << group;
            if (!needNumber("is", 0, MOST_BUDGET)) {
                return false;
            }
            draft.budgets[group] = value;
            return needSign();
        }

        private boolean needPlace() {
            step();
            if (!isWord("at")) {
                return fail(1);
            }
            if (!needBounds(0, draft.columns - 1)) {
                return false;
            }
            x = value;
            if (!needBounds(0, draft.rows - 1)) {
                return false;
            }
            y = value;
            site = y * draft.columns + x;
            return true;
        }

        private boolean needNumber(String word, int least, int greatest) {
            step();
            return isWord(word) ? needBounds(least, greatest) : fail(1);
        }

        private boolean needBounds(int least, int greatest) {
            step();
            if (kind != NUMBER) {
                return fail(1);
            }
            return (value >= least && value <= greatest) || fail(2);
        }

        private boolean needSign() {
            step();
            return kind == SIGN || fail(1);
        }

        private boolean fail(int number) {
            wrong = number;
            wrongAt = first;
            return false;
        }

        /** Goes on to the next TOKEN: the longest, but for a sign, which is one byte. */
        private void step() {
            first = behind;
            while (first < size && kindOf(bytes[first]) == BLANK) {
                first++;
            }
            behind = first;
            if (first >= size) {
                kind = STOP;
                return;
            }
            kind = kindOf(bytes[first]);
            value = 0;
            boolean more = true;
            while (behind < size && more) {
                if (kind == NUMBER && value < HUGE) {
                    // No more digits count once it is out of all bounds, so that it can't wrap around.
                    value = value * 10 + bytes[behind] - '0';
                }
                behind++;
                more = (kind == WORD || kind == NUMBER) && behind < size && kindOf(bytes[behind]) == kind;
            }
        }

        private static int kindOf(int sign) {
            if (sign >= 'a' && sign <= 'z') {
                return WORD;
            }
            if (sign >= '0' && sign <= '9') {
                return NUMBER;
            }
            if (sign == ' ' || sign == 10) {
                return BLANK;
            }
            return sign == ';' ? SIGN : STRANGE;
        }

        private boolean isWord(String word) {
            if (kind != WORD || behind - first != word.length()) {
                return false;
            }
            for (int i = 0; i < word.length(); i++) {
                if (bytes[first + i] != word.charAt(i)) {
                    return false;
                }
            }
            return true;
        }
    }

    /** The SCORE of a GRID: the fewer starved the better, then the lesser DROP. */
    private static final class Score {
        int starved = 0;
        long above = 0;
        long below = 1;

        void copyFrom(Score other) {
            starved = other.starved;
            above = other.above;
            below = other.below;
        }

        boolean isBetterThan(Score other) {
            if (starved != other.starved) {
                return starved < other.starved;
            }
            return other.isDeeperThan(this);
        }

        boolean isDeeperThan(Score other) {
            return above * other.below > other.above * below;
        }

        boolean isWithin(int limit) {
            return starved == 0 && above <= limit * below;
        }
    }

    /**
     * DROPS by widths, PADS and LOADS, all over one number below. Rows are made free without
     * fractions (Bareiss): every number on the way is a minor of the rows, so no long overflows.
     */
    private static final class Flow {
        int deadBits = 0;
        long below = 1;
        final long[] above = new long[MOST_NODES];
        final Score score = new Score();
        private int size = 0;
        private final int[] nodeOfRow = new int[MOST_NODES];
        private final int[] rowOfNode = new int[MOST_NODES];
        private final long[][] rows = new long[MOST_NODES][MOST_NODES + 1];
        private final int[] unit = new int[MOST_NODES];

        void settle(Net net, int[] widths, int padBits, int[] loads) {
            deadBits = ((1 << net.nodes) - 1) & ~net.spread(widths, padBits);
            numberRows(net, padBits);
            fillRows(net, widths, loads);
            clearRows();
            Arrays.fill(above, 0);
            for (int row = 0; row < size; row++) {
                above[nodeOfRow[row]] = rows[row][size];
            }
            keepScore(net, loads);
        }

        /** As if 1 were drawn at a NODE alone. */
        void settleUnit(Net net, int padBits, int node) {
            Arrays.fill(unit, 0);
            unit[node] = 1;
            settle(net, net.widths, padBits, unit);
        }

        private void numberRows(Net net, int padBits) {
            size = 0;
            for (int node = 0; node < net.nodes; node++) {
                rowOfNode[node] = NONE;
                if (((deadBits | padBits) >> node & 1) == 0) {
                    nodeOfRow[size] = node;
                    rowOfNode[node] = size;
                    size++;
                }
            }
        }

        private void fillRows(Net net, int[] widths, int[] loads) {
            for (int row = 0; row < size; row++) {
                Arrays.fill(rows[row], 0);
                rows[row][size] = loads[nodeOfRow[row]];
            }
            for (int s = 0; s < net.straps; s++) {
                int start = rowOfNode[net.starts[s]];
                int stop = rowOfNode[net.ends[s]];
                if (start != NONE) {
                    rows[start][start] += widths[s];
                }
                if (stop != NONE) {
                    rows[stop][stop] += widths[s];
                }
                if (start != NONE && stop != NONE) {
                    rows[start][stop] -= widths[s];
                    rows[stop][start] -= widths[s];
                }
            }
        }

        private void clearRows() {
            long before = 1;
            for (int k = 0; k < size; k++) {
                for (int row = 0; row < size; row++) {
                    if (row != k) {
                        clearRow(row, k, before);
                    }
                }
                before = rows[k][k];
            }
            below = before;
        }

        private void clearRow(int row, int k, long before) {
            // Each NODE here comes to a PAD, so no leading minor is 0; the test keeps the division safe.
            if (before == 0) {
                return;
            }
            long pivot = rows[k][k];
            long factor = rows[row][k];
            for (int column = k + 1; column <= size; column++) {
                rows[row][column] = (pivot * rows[row][column] - factor * rows[k][column]) / before;
            }
        }

        private void keepScore(Net net, int[] loads) {
            score.starved = 0;
            score.above = 0;
            score.below = below;
            for (int node = 0; node < net.nodes; node++) {
                if (isDead(node) && loads[node] > 0) {
                    score.starved++;
                }
                score.above = Math.max(score.above, above[node]);
            }
        }

        boolean isDead(int node) {
            return (deadBits >> node & 1) == 1;
        }

        /** How much greater the DROP is where a STRAP goes to than where it is from. */
        long rise(Net net, int strap) {
            return above[net.ends[strap]] - above[net.starts[strap]];
        }

        long givenBy(Net net, int pad) {
            long sum = net.loads[pad] * below;
            for (int s = 0; s < net.straps; s++) {
                if (net.starts[s] == pad) {
                    sum += net.widths[s] * above[net.ends[s]];
                } else if (net.ends[s] == pad) {
                    sum += net.widths[s] * above[net.starts[s]];
                }
            }
            return sum;
        }

        /** By its width, what goes through a STRAP is the rise along it. */
        long heatAbove(Net net, int[] widths, int strap) {
            return widths[strap] > 0 ? Math.abs(rise(net, strap)) : 0;
        }

        int wearBits(Net net, int[] widths) {
            int bits = 0;
            for (int s = 0; s < net.straps; s++) {
                if (heatAbove(net, widths, s) > net.wear * below) {
                    bits |= 1 << s;
                }
            }
            return bits;
        }
    }

    /** The MOST at a NODE, and what all draw for it. */
    private static final class Bounded {
        long above = 0;
        long below = 1;
        final int[] draws = new int[MOST_NODES];
        final int[] left = new int[BUDGETS];
        private final Flow flow = new Flow();

        void drawAgainst(Net net, int node) {
            // What 1 at the NODE does to another one is what 1 at that one does to the NODE.
            flow.settleUnit(net, net.padBits, node);
            above = 0;
            below = flow.below;
            Arrays.fill(draws, 0);
            System.arraycopy(net.budgets, 0, left, 0, BUDGETS);
            int waiting = ((1 << net.nodes) - 1) & ~flow.deadBits;
            for (int turn = 0; turn < net.nodes && waiting != 0; turn++) {
                int next = strongest(net, waiting);
                drawAll(net, next);
                waiting &= ~(1 << next);
            }
        }

        private int strongest(Net net, int waiting) {
            int chosen = 0;
            long greatest = -1;
            for (int node = 0; node < net.nodes; node++) {
                if ((waiting >> node & 1) == 1 && flow.above[node] > greatest) {
                    chosen = node;
                    greatest = flow.above[node];
                }
            }
            return chosen;
        }

        private void drawAll(Net net, int node) {
            int group = net.groups[node];
            int amount = Math.min(net.loads[node], left[0]);
            if (group > 0) {
                amount = Math.min(amount, left[group]);
                left[group] -= amount;
            }
            left[0] -= amount;
            draws[node] = amount;
            above += amount * flow.above[node];
        }
    }

    /** The widths year by year, till no STRAP wears. */
    private static final class Years {
        boolean known = false;
        int calm = 0;
        int firstFailed = NONE;
        final int[][] widths = new int[MOST_YEARS + 1][MOST_STRAPS];
        private final Flow flow = new Flow();

        void look(Net net) {
            if (known) {
                return;
            }
            known = true;
            firstFailed = NONE;
            System.arraycopy(net.widths, 0, widths[0], 0, MOST_STRAPS);
            // Each year before the calm takes 1 of some width, so the rows are enough.
            for (int y = 0; y <= MOST_YEARS; y++) {
                calm = y;
                flow.settle(net, widths[y], net.padBits, net.loads);
                if (firstFailed == NONE && !flow.score.isWithin(net.limit)) {
                    firstFailed = y;
                }
                int bits = flow.wearBits(net, widths[y]);
                if (bits == 0 || y == MOST_YEARS) {
                    return;
                }
                System.arraycopy(widths[y], 0, widths[y + 1], 0, MOST_STRAPS);
                net.shiftWidths(widths[y + 1], bits, -1);
            }
        }
    }

    /** PADS placed one by one, and best of all. */
    private static final class PadSearch {
        int greedyCount = 0;
        final int[] greedy = new int[MOST_NODES];
        final Score[] setScores = new Score[MOST_NODES + 1];
        private boolean greedyKnown = false;
        private final boolean[] setKnown = new boolean[MOST_NODES + 1];
        private final int[] sets = new int[MOST_NODES + 1];
        private final Score best = new Score();
        private final Flow flow = new Flow();

        PadSearch() {
            for (int n = 0; n <= MOST_NODES; n++) {
                setScores[n] = new Score();
            }
        }

        void forgetAll() {
            greedyKnown = false;
            for (int n = 0; n <= MOST_NODES; n++) {
                setKnown[n] = false;
            }
        }

        void lookGreedy(Net net) {
            if (greedyKnown) {
                return;
            }
            greedyKnown = true;
            greedyCount = 0;
            int bits = net.padBits;
            for (int turn = 0; turn < net.nodes; turn++) {
                int next = bestNext(net, bits);
                if (next == NONE) {
                    return;
                }
                greedy[greedyCount] = next;
                greedyCount++;
                bits |= 1 << next;
            }
        }

        private int bestNext(Net net, int padBits) {
            int chosen = NONE;
            for (int node = 0; node < net.nodes; node++) {
                if ((padBits >> node & 1) == 0) {
                    flow.settle(net, net.widths, padBits | (1 << node), net.loads);
                    if (chosen == NONE || flow.score.isBetterThan(best)) {
                        chosen = node;
                        best.copyFrom(flow.score);
                    }
                }
            }
            return chosen;
        }

        /** The best set of n NODES; its SCORE is kept. n is 0 to 9. */
        int bestSet(Net net, int n) {
            if (!setKnown[n]) {
                setKnown[n] = true;
                sets[n] = findSet(net, n, setScores[n]);
            }
            return sets[n];
        }

        private int findSet(Net net, int n, Score bestScore) {
            int chosen = NONE;
            for (int set = 0; set < 1 << net.nodes; set++) {
                if ((set & net.padBits) == 0 && Integer.bitCount(set) == n) {
                    flow.settle(net, net.widths, net.padBits | set, net.loads);
                    if (chosen == NONE || flow.score.isBetterThan(bestScore)) {
                        chosen = set;
                        bestScore.copyFrom(flow.score);
                    }
                }
            }
            return chosen;
        }
    }

    /** STRAPS widened step by step, least of all, and made less wide. */
    private static final class StrapSearch {
        int greedyCount = 0;
        boolean greedyHolds = false;
        final int[] greedy = new int[MOST_STEPS];
        int leastCount = NONE;
        final int[] least = new int[MOST_LEAST];
        int slimCount = NONE;
        final int[] slimWidths = new int[MOST_STRAPS];
        private boolean greedyKnown = false;
        private boolean leastKnown = false;
        private boolean slimKnown = false;
        private final int[] widths = new int[MOST_STRAPS];
        private final Score best = new Score();
        private final Score gained = new Score();
        private final Flow flow = new Flow();

        void forgetAll() {
            greedyKnown = false;
            leastKnown = false;
            slimKnown = false;
        }

        void lookGreedy(Net net) {
            if (greedyKnown) {
                return;
            }
            greedyKnown = true;
            greedyCount = 0;
            start(net);
            gained.copyFrom(flow.score);
            for (int turn = 0; turn < MOST_STEPS && !gained.isWithin(net.limit); turn++) {
                int strap = bestChange(net, 1);
                if (strap == NONE || !best.isBetterThan(gained)) {
                    break;
                }
                widths[strap]++;
                gained.copyFrom(best);
                greedy[greedyCount] = strap;
                greedyCount++;
            }
            greedyHolds = gained.isWithin(net.limit);
        }

        void lookSlim(Net net) {
            if (slimKnown) {
                return;
            }
            slimKnown = true;
            start(net);
            slimCount = NONE;
            if (!flow.score.isWithin(net.limit)) {
                return;
            }
            slimCount = 0;
            for (int turn = 0; turn < MOST_YEARS; turn++) {
                int strap = bestChange(net, -1);
                // If the best does not hold, none does.
                if (strap == NONE || !best.isWithin(net.limit)) {
                    break;
                }
                widths[strap]--;
                slimCount++;
            }
            System.arraycopy(widths, 0, slimWidths, 0, MOST_STRAPS);
        }

        private void start(Net net) {
            System.arraycopy(net.widths, 0, widths, 0, MOST_STRAPS);
            flow.settle(net, widths, net.padBits, net.loads);
        }

        /** The STRAP by which SCORE is best, if its width changes so; that SCORE is kept. */
        private int bestChange(Net net, int by) {
            int chosen = NONE;
            for (int s = 0; s < net.straps; s++) {
                int width = widths[s] + by;
                if (width >= 0 && width <= MOST_WIDTH) {
                    widths[s] = width;
                    flow.settle(net, widths, net.padBits, net.loads);
                    widths[s] = width - by;
                    if (chosen == NONE || flow.score.isBetterThan(best)) {
                        chosen = s;
                        best.copyFrom(flow.score);
                    }
                }
            }
            return chosen;
        }

        void lookLeast(Net net) {
            if (leastKnown) {
                return;
            }
            leastKnown = true;
            leastCount = NONE;
            for (int steps = 0; steps <= MOST_LEAST && leastCount == NONE; steps++) {
                if (findLeast(net, steps)) {
                    leastCount = steps;
                }
            }
        }

        private boolean findLeast(Net net, int steps) {
            if (steps > 0 && net.straps == 0) {
                return false;
            }
            Arrays.fill(least, 0);
            // 12 STRAPS have 364 rising rows of 3.
            for (int trials = 0; trials < 400; trials++) {
                if (holdsWider(net, steps)) {
                    return true;
                }
                if (!nextRising(net, steps)) {
                    return false;
                }
            }
            return false;
        }

        private boolean holdsWider(Net net, int steps) {
            System.arraycopy(net.widths, 0, widths, 0, MOST_STRAPS);
            for (int i = 0; i < steps; i++) {
                int strap = least[i];
                widths[strap]++;
                if (widths[strap] > MOST_WIDTH) {
                    return false;
                }
            }
            flow.settle(net, widths, net.padBits, net.loads);
            return flow.score.isWithin(net.limit);
        }

        /** The next row of so many STRAPS, each no less than the one ahead. */
        private boolean nextRising(Net net, int steps) {
            for (int i = steps - 1; i >= 0; i--) {
                if (least[i] + 1 < net.straps) {
                    int next = least[i] + 1;
                    for (int j = i; j < steps; j++) {
                        least[j] = next;
                    }
                    return true;
                }
            }
            return false;
        }
    }

    /** What is when STRAPS are not there. */
    private static final class LossSearch {
        int worstStrap = NONE;
        int spareBits = 0;
        int pairCount = 0;
        final int[] pairCodes = new int[MOST_PAIRS];
        private boolean singlesKnown = false;
        private boolean pairsKnown = false;
        private final int[] widths = new int[MOST_STRAPS];
        private final Score worstScore = new Score();
        final Flow flow = new Flow();

        void forgetAll() {
            singlesKnown = false;
            pairsKnown = false;
        }

        void settleWithout(Net net, int strap, int other) {
            System.arraycopy(net.widths, 0, widths, 0, MOST_STRAPS);
            widths[strap] = 0;
            widths[other] = 0;
            flow.settle(net, widths, net.padBits, net.loads);
        }

        void lookSingles(Net net) {
            if (singlesKnown) {
                return;
            }
            singlesKnown = true;
            worstStrap = NONE;
            spareBits = 0;
            for (int s = 0; s < net.straps; s++) {
                if (net.widths[s] > 0) {
                    settleWithout(net, s, s);
                    if (worstStrap == NONE || worstScore.isBetterThan(flow.score)) {
                        worstStrap = s;
                        worstScore.copyFrom(flow.score);
                    }
                    if (flow.score.isWithin(net.limit)) {
                        spareBits |= 1 << s;
                    }
                }
            }
        }

        void lookPairs(Net net) {
            if (pairsKnown) {
                return;
            }
            pairsKnown = true;
            lookSingles(net);
            pairCount = 0;
            for (int s = 0; s < net.straps; s++) {
                for (int other = s + 1; other < net.straps; other++) {
                    if ((spareBits >> s & 1) == 1 && (spareBits >> other & 1) == 1) {
                        tryPair(net, s, other);
                    }
                }
            }
        }

        private void tryPair(Net net, int strap, int other) {
            settleWithout(net, strap, other);
            if (!flow.score.isWithin(net.limit) && pairCount < MOST_PAIRS) {
                pairCodes[pairCount] = 100 * strap + other;
                pairCount++;
            }
        }
    }

    /** What is with other LOADS. */
    private static final class LoadTrials {
        int held = 0;
        final Score deepest = new Score();
        private long seedNow = 0;
        private final int[] loads = new int[MOST_NODES];
        private final Flow flow = new Flow();

        void play(Net net, int seed, int times) {
            held = 0;
            deepest.above = 0;
            deepest.below = 1;
            seedNow = seed;
            for (int i = 0; i < times; i++) {
                for (int node = 0; node < net.nodes; node++) {
                    loads[node] = nextDraw(net.loads[node]);
                }
                flow.settle(net, net.widths, net.padBits, loads);
                if (flow.score.isWithin(net.limit)) {
                    held++;
                }
                if (flow.score.isDeeperThan(deepest)) {
                    deepest.copyFrom(flow.score);
                }
            }
        }

        private int nextDraw(int load) {
            seedNow = (1103515245L * seedNow + 12345L) & 0x7fffffffL;
            return load > 0 ? (int) (seedNow / 65536 % (load + 1)) : 0;
        }

        /** More drawn never lets it hold again, so the range is halved. */
        int greatestDraw(Net net, int node) {
            System.arraycopy(net.loads, 0, loads, 0, MOST_NODES);
            int low = NONE;
            int high = MOST_DRAW;
            for (int round = 0; round < 8 && low < high; round++) {
                int middle = (low + high + 1) / 2;
                loads[node] = middle;
                flow.settle(net, net.widths, net.padBits, loads);
                if (flow.score.isWithin(net.limit)) {
                    low = middle;
                } else {
                    high = middle - 1;
                }
            }
            return low;
        }
    }
}
