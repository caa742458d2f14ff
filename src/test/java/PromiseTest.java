import java.util.ArrayList;
import java.util.List;

/** One script or more for each promise of the document; Scripts tells their form. */
public final class PromiseTest {
    private static final String LINE = told("LINE");
    private static final String SQUARE = told("SQUARE");
    private static final String BROKEN = told("BROKEN");
    private static final String DEAD = told("DEAD");
    private static final String SINGLE = told("SINGLE");
    private static final String CROSS = told("CROSS");

    private static final List<Scripts.Case> CASES = new ArrayList<>();

    private static String told(String name) {
        String text = Scripts.GRIDS.get(name);
        return "text " + text.chars().filter(sign -> sign == ';').count() + ": " + text + "\n";
    }

    /** The first line is "promise n: name". */
    private static void add(String script) {
        String first = script.substring(0, script.indexOf('\n'));
        int colon = first.indexOf(':');
        int promise = Integer.parseInt(first.substring("promise ".length(), colon));
        String rest = script.substring(first.length() + 1).replace("\\n", "<10>").replace("^", "<200>");
        CASES.add(new Scripts.Case(promise, first.substring(colon + 2), rest));
    }

    static List<Scripts.Case> cases() {
        CASES.clear();
        textScripts();
        gridScripts();
        dropScripts();
        boundedScripts();
        yearScripts();
        searchScripts();
        lossScripts();
        actScripts();
        return CASES;
    }

    public static void main(String[] args) {
        System.exit(Scripts.runAll("promises", cases()) ? 0 : 1);
    }

    private static void textScripts() {
        add("promise 1: a new object\ncount = 0 0 0 0 0 0 0 0 0 0 -1\nfault = 0 -1\nholds = -2\nbudget 0 = -1\nnode 0 0 = -1\n"
            + "strap 0 0 = -1\nbetween 0 0 = -2\nundo = -2\nback 0 = -6\nthrough 0 0 = -9223372036854775808");
        StringBuilder full = new StringBuilder("promise 2: feed\n");
        for (int i = 1; i <= 35; i++) {
            full.append("feed 1 2 3 4 5 = ").append(20 * i).append('\n');
        }
        add(full + "feed 1 2 3 4 5 = -1\ncount 7 = 700\nend 681 = 681\nfeed 1 2 3 4 5 = -1\ncount 7 = 681\nend 680 = 680\nfeed 0 0 0 0 0 = 700");
        // "grid columns 1 rows " and "1 width 0 limit 0 we" and "ar 1;" with blanks
        add("promise 2: the highest byte first\nfeed 1735551332 543387500 1970105971 540090482 1870099232 = 20\n"
            + "feed 824211305 1685350432 807431273 1835627552 807434085 = 40\nfeed 1634869297 991961120 538976288 538976288 538976288 = 60\n"
            + "grid = 1\ncount = 1 1 0 1 0 0 1 0 0 1 -1");
        add("promise 2: bytes above 127\nfeed -1 -1 -1 -1 -1 = 20\ngrid = -4\nfault = 1 0 -1");
        add("promise 3: end\nend 0 = 0\nend 1 = -1\nend -1 = -1\nfeed 1 2 3 4 5 = 20\nend 21 = -1\ncount 7 = 20\nend 20 = 20\nend 7 = 7\n"
            + "end 8 = -1\ncount 7 = 7\nend -2147483648 = -1\nend 2147483647 = -1\nfeed 1 2 3 4 5 = 27\nend 0 = 0\ncount 7 = 0");
        add("promise 4: grid\n" + LINE + "count = 3 1 10 5 2 0 3 0 1 0 -1\nlay 0 1 = 2\ncount 5 = 1\n" + SQUARE
            + "count = 2 2 3 9 4 0 6 0 1 0 -1\nlay 0 2 = 1\nfault 1 0: pad at 0 0;\ncount = 2 2 3 9 4 1 6 0 1 0 -1\nstrap 0 2 = 2\n"
            + "grid = 0\ncount = 0 0 0 0 0 0 0 0 0 0 -1\nholds = -2\nnode 0 0 = -1\nbudget 0 = -1\ntext 0:  \\n\\n \nfault = 0 -1 -1\nimage 0 = 0");
        add("promise 4: what a text tells\n"
            + "text 1: grid columns 9 rows 1 width 4 limit 999 wear 999;\ncount = 9 1 999 999 8 0 1 0 0 511 -1\n"
            + "text 1:  \\ngrid columns1rows9width0limit0wear1;\ncount = 1 9 0 1 8 0 1 0 0 511 -1\nstrap 7 2 = 0\n"
            + "text 3: grid columns 002 rows 1 width 1 limit 5 wear 5;strap at 0 0 east width 2;strap at 0 0 east width 3 ; \n"
            + "strap 0 2 = 3\ntext 3: grid\\ncolumns 2 rows 1 width 1 limit 5 wear 5;load at 1 0 draws 99 group 3;budget 3 is 0;\n"
            + "node 1 = 0 99 3 1 -1\nbudget = 999 999 999 0 -1");
        String good = "grid columns 2 rows 2 width 1 limit 3 wear 9;";
        add("promise 5: fault\nfault = 0 -1 -1\nfault -1 = -1\n"
            + "fault 1 0: ;\nfault 1 0: 7\nfault 1 0: Grid columns\nfault 1 1:  ^\nfault 1 0: gridz columns 2\nfault 1 0: agrid columns 2\nfault 1 4: grid{\nfault 1 4: grid`\nfault 1 13: grid columns /2\nfault 1 14: grid columns 2: rows\nfault 1 0: strap at 0 0 east width 1;\n"
            + "fault 1 4: grid\nfault 1 7: grid  \\n\nfault 1 5: grid rows 2\nfault 2 13: grid columns 0\nfault 2 13: grid columns 10 x\n"
            + "fault 1 13: grid columns x\nfault 2 20: grid columns 3 rows 4 width 1\nfault 2 20: grid columns 1 rows 10\n"
            + "fault 2 28: grid columns 3 rows 3 width 5 limit\nfault 2 36: grid columns 3 rows 3 width 4 limit 1000 wear\n"
            + "fault 2 45: grid columns 3 rows 3 width 4 limit 999 wear 0;\nfault 2 45: grid columns 3 rows 3 width 4 limit 999 wear 1000;\n"
            + "fault 2 13: grid columns 4294967297 rows 1\nfault 2 13: grid columns 99999999999999999999999999999999 rows\n"
            + "fault 1 45: grid columns 3 rows 3 width 4 limit 10 wear 1\nfault 1 46: grid columns 3 rows 3 width 4 limit 10 wear 1\\n\n"
            + "fault 1 46: grid columns 3 rows 3 width 4 limit 10 wear 1 grid");
        add("promise 5: fault behind the grid\n"
            + "fault 1 45: " + good + ";\nfault 1 45: " + good + good + "\nfault 1 45: " + good + "wire at 0 0;\nfault 1 45: " + good + "3\n"
            + "fault 1 49: " + good + "pad 0 0;\nfault 2 52: " + good + "pad at 2 0;\nfault 2 54: " + good + "pad at 0 2;\n"
            + "fault 2 65: " + good + "pad at 0 1;pad at 0 1;\ntext 3: " + good + "pad at 0 1;pad at 1 0;\ntext 3: " + good + "pad at 0 1;load at 0 1 draws 1;\n"
            + "fault 2 75: " + good + "load at 1 1 draws 1;load at 1 1\nfault 2 63: " + good + "load at 1 1 draws 0;\nfault 2 63: " + good + "load at 1 1 draws 100;\n"
            + "fault 1 65: " + good + "load at 1 1 draws 9 budget 1;\nfault 2 71: " + good + "load at 1 1 draws 9 group 0;\nfault 2 71: " + good + "load at 1 1 draws 9 group 4\n"
            + "fault 1 73: " + good + "load at 1 1 draws 9 group 3 group 3;\nfault 2 58: " + good + "strap at 1 0 east width 1;\nfault 2 58: " + good + "strap at 0 1 south width 9;\n"
            + "fault 1 58: " + good + "strap at 0 0 north width 1;\nfault 2 69: " + good + "strap at 0 0 east width 5;\ntext 2: " + good + "strap at 0 0 east width 0;\n"
            + "fault 2 52: " + good + "budget 4 is 7;\nfault 2 57: " + good + "budget 0 is 1000;\nfault 2 66: " + good + "budget 0 is 9;budget 0 is 9;\n"
            + "fault 1 54: " + good + "budget 0 = 9;\nfault 2 67: " + good + "budget 3 is 1; budget 3" + "\n"
            + "fault 1 55: " + good + "pad at 0 0\nfault 1 55: " + good + "pad at 0 0^;\n" + LINE + "fault = 0 -1 -1");
    }

    private static void gridScripts() {
        add("promise 6: count\n" + BROKEN + "count = 5 1 10 2 4 0 8 0 9 16 -1\ncount -1 = -1\ncount 2147483647 = -1\nfeed 1 2 3 4 5 = 20\ncount 7 = 20\n"
            + "year = 1\ncount 5 = 1\nfeeds 4 = 3\ncount 8 = 25\ncount 9 = 0");
        add("promise 7: strap\n" + CROSS + "strap 0 = 0 1 1 -1\nstrap 1 = 0 3 1 -1\nstrap 2 = 1 2 1 -1\nstrap 3 = 1 4 1 -1\nstrap 4 = 2 5 1 -1\nstrap 5 = 3 4 1 -1\n"
            + "strap 6 = 3 6 1 -1\nstrap 9 = 5 8 1 -1\nstrap 10 = 6 7 1 -1\nstrap 11 = 7 8 1 -1\nstrap 12 = -1 -1 -1\nstrap -1 = -1 -1 -1\nstrap 0 -1 = -1\n"
            + BROKEN + "strap 1 = 1 2 0 -1\nstrap 4 0 = -1\n" + SINGLE + "strap 0 0 = -1");
        add("promise 8: between\n" + CROSS + "between 0 = -1 0 -1 1 -1 -1 -1 -1 -1 -2\nbetween 4 = -1 3 -1 5 -1 7 -1 8 -1 -2\nbetween 2 3 = -1\nbetween -1 0 = -2\n"
            + BROKEN + "between 1 2 = 1\nbetween 2 1 = 1\n" + SINGLE + "between 0 0 = -1\nbetween 0 1 = -2");
        add("promise 9: node\n" + BROKEN + "node 0 = 1 0 0 0 -1\nnode 1 = 0 6 0 0 -1\nnode 2 = 0 3 2 0 -1\nnode 3 = 1 0 0 0 -1\nnode 4 = 0 5 0 1 -1\nnode 5 = -1 -1 -1 -1\n"
            + "node -1 0 = -1\nnode 0 -1 = -1\ndraw 2 0 = 3\nnode 2 = 0 0 2 0 -1");
        add("promise 10: budget\n" + SQUARE + "budget = 8 999 999 999 -1\nbudget -1 = -1\n"
            + "text 5: grid columns 1 rows 1 width 1 limit 1 wear 1;budget 3 is 0;budget 1 is 999;budget 2 is 5;budget 0 is 1;\nbudget = 1 999 5 0 -1");
    }

    private static void dropScripts() {
        add("promise 11: drop\n" + LINE + "drop 0 = 0 1 -2\ndrop 1 = 3 1 -2\ndrop 2 = 6 1 -2\ndrop 3 = -2 -2\ndrop -1 0 = -2\ndrop 0 -1 = -2\n"
            + BROKEN + "drop 2 = 3 2 -2\ndrop 4 = -1 -1 -2\n" + DEAD + "drop 0 = -1 -1\n" + SINGLE + "drop 0 = 0 1 -2\ngrid = 0\ndrop 0 = -2 -2");
        add("promise 12: through\n" + LINE + "through 0 = 6 1 -9223372036854775808\nthrough 1 = 6 1\nthrough 2 0 = -9223372036854775808\nthrough -1 0 = -9223372036854775808\n"
            + "through 0 -1 = -9223372036854775808\n" + BROKEN + "through 0 = 6 1\nthrough 1 = 0 1\nthrough 2 = -3 1\nthrough 3 = 0 1\n" + DEAD + "through 0 = 0 1\n"
            + "text 3: grid columns 2 rows 1 width 3 limit 1 wear 1;pad at 1 0;load at 0 0 draws 5;\nthrough 0 = -5 1\ndrop 0 = 5 3\n"
            + "text 3: grid columns 2 rows 2 width 1 limit 1 wear 1;pad at 0 0;load at 1 0 draws 1;\nthrough 0 = 3 4\nthrough 1 = 1 4\nthrough 2 = -1 4\nthrough 3 = 1 4");
        add("promise 13: gives\n" + BROKEN + "gives 0 = 6 1 -2\ngives 3 = 3 1 -2\ngives 1 = -1 -1 -2\ngives 4 = -1 -1 -2\ngives 5 0 = -2\ngives -1 0 = -2\ngives 0 -1 = -2\n"
            + SINGLE + "gives 0 = 7 1\n" + "text 5: grid columns 3 rows 1 width 1 limit 9 wear 9;pad at 0 0;pad at 2 0;load at 1 0 draws 5;load at 0 0 draws 2;\n"
            + "gives 0 = 9 2\ngives 2 = 5 2");
        add("promise 14: chief\nchief = -2\n" + BROKEN + "chief = 0\ndraw 2 6 = 3\nchief = 0\ndraw 2 7 = 6\nchief = 3\n" + DEAD + "chief = -1\n"
            + SINGLE + "chief = 0\ndraw 0 0 = 7\nchief = 0");
        add("promise 15: area\narea = -2\n" + LINE + "area = 4\n" + BROKEN + "area = 4\n" + CROSS + "area = 12\n" + SINGLE + "area = 0");
        add("promise 16: worst\nworst = -2\n" + LINE + "worst = 2\n" + SQUARE + "worst = 3\ndraw 3 0 = 4\nworst = 1\n" + DEAD + "worst = -1\n" + SINGLE + "worst = 0\n"
            + BROKEN + "worst = 1\ndraw 1 0 = 6\ndraw 2 0 = 3\nworst = 0");
        add("promise 17: over\nover = -2\n" + LINE + "over = 0\ndraw 2 10 = 6\nover = 0\ndraw 2 11 = 10\nover = 4\n" + SQUARE + "over = 14\n" + DEAD + "over = 0");
        add("promise 18: holds\nholds = -2\n" + LINE + "holds = 1\ndraw 2 10 = 6\nholds = 1\ndraw 2 11 = 10\nholds = 0\n" + BROKEN + "holds = 0\ndraw 4 0 = 5\nholds = 1\n"
            + SINGLE + "holds = 1");
        add("promise 19: loss\nloss 0 = -2\n" + LINE + "loss = 36 1 -2\nloss -1 = -2\n" + BROKEN + "loss = 45 2 -2\n" + DEAD + "loss = 0 1\n" + SQUARE + "loss = 80 1");
        add("promise 20: moves\nmoves 0 0 0 = -2\n" + SQUARE + "moves 1 1 = 3 4 -2\nmoves 1 2 = 1 4\nmoves 2 1 = 1 4\nmoves 3 1 = 1 2\nmoves 3 3 = 1 1\nmoves 0 3 = 0 1\nmoves 3 0 = 0 1\n"
            + "moves 4 0 0 = -2\nmoves 0 4 0 = -2\nmoves -1 0 0 = -2\nmoves 0 0 -1 = -2\n" + BROKEN + "moves 1 1 = 1 2\nmoves 1 2 = 0 1\nmoves 4 1 = -1 -1 -2\nmoves 1 4 = -1 -1 -2");
        add("promise 21: resists\nresists 0 0 0 = -2\n" + SQUARE + "resists 0 1 = 3 4 -2\nresists 1 0 = 3 4\nresists 1 2 = 1 1\nresists 2 2 = 0 1\n" + DEAD + "resists 0 1 = 1 1\n"
            + BROKEN + "resists 0 1 = 1 2\nresists 1 2 = -1 -1 -2\nresists 4 4 = 0 1\nresists 5 0 0 = -2\nresists 0 -1 0 = -2\nresists 0 1 2 = -2\n"
            + CROSS + "resists 0 8 = 3 2\nresists 0 4 = 7 8\nresists 3 5 = 1 1");
        add("promise 27: share\nshare 0 0 0 = -2\n" + SQUARE + "share 1 1 = 1 2 -2\nshare 1 2 = 1 6\nshare 1 3 = 1 3\nshare 1 0 = 0 1\nshare 3 3 = 1 2\nshare 3 1 = 1 4\nshare 0 1 = 0 1\n"
            + "share 4 0 0 = -2\nshare 0 4 0 = -2\nshare 0 0 2 = -2\n" + BROKEN + "share 1 1 = 1 1\nshare 1 2 = 0 1\nshare 4 1 = -1 -1 -2\nshare 1 4 = -1 -1");
        add("promise 28: feeder\nfeeder 0 0 = -2\n" + LINE + "feeder 2 = 2 1 0 -1 -1\nfeeder 0 = 0 -1\nfeeder 1 = 1 0 -1\nfeeder 2 -1 = -2\nfeeder 3 0 = -2\nfeeder -1 0 = -2\nfeeder 2 2147483647 = -1\n"
            + SQUARE + "feeder 3 = 3 1 0 -1\ndraw 1 5 = 4\nfeeder 3 = 3 2 0 -1\n" + DEAD + "feeder 0 = 0 -1\nfeeder 1 = 1 -1\n"
            + LINE + "draw 2 0 = 6\nfeeder 2 = 2 -1\ndraw 1 4 = 0\nfeeder 2 = 2 -1\nfeeder 1 = 1 0 -1\n" + BROKEN + "feeder 2 = 2 3 -1\n" + DEAD + "feeds 0 = 1\ndraw 1 1 = 3\nfeeder 1 = 1 0 -1");
        add("promise 29: parts\nparts = -2\n" + LINE + "parts = 1\n" + BROKEN + "parts = 3\n" + SINGLE + "parts = 1\n" + "text 1: grid columns 3 rows 3 width 0 limit 1 wear 1;\nparts = 9");
        add("promise 30: reached\nreached 0 = -2\n" + BROKEN + "reached = 3 3 12 12 16 -2\nreached -1 = -2\n" + CROSS + "reached 8 = 511");
    }

    private static void boundedScripts() {
        String groups = told("GROUPS");
        add("promise 22: most\nmost 0 0 = -2\n" + SQUARE + "most 0 = 0 1 -2\nmost 1 = 5 1\nmost 2 = 5 1\nmost 3 = 6 1\nmost 4 0 = -2\nmost -1 0 = -2\nmost 0 2 = -2\n"
            + DEAD + "most 0 = -1 -1 -2\n" + LINE + "most 2 = 6 1\n" + groups + "most 3 = 20 1\nmost 1 = 9 1\nmost 2 = 17 1\n" + BROKEN + "most 2 = 3 2");
        add("promise 23: drawn\ndrawn 0 0 = -2\n" + SQUARE + "drawn 1 = 0 4 0 4 -2\ndrawn 3 = 0 4 0 4\ndrawn 2 = 0 0 4 4\ndrawn 0 = 0 4 4 0\ndrawn 4 0 = -2\ndrawn -1 0 = -2\n"
            + DEAD + "drawn 0 = -1 -1 -2\n" + BROKEN + "drawn 1 = 0 6 3 0 0 -2\ndrawn 4 0 = -1\n" + groups + "drawn 3 = 0 1 5 3\ndrawn 1 = 0 5 2 2\ndrawn 0 = 9 0 0 0\n"
            + "draw 3 1 = 5\ndrawn 3 = 1 2 5 1");
        add("promise 24: foe\nfoe = -2\n" + SQUARE + "foe = 3\n" + LINE + "foe = 2\ndraw 2 0 = 6\nfoe = 0\n" + DEAD + "foe = -1\n" + BROKEN + "foe = 1");
        add("promise 25: unsafe\nunsafe = -2\n" + SQUARE + "unsafe = 14\n" + groups + "unsafe = 0\n" + groups.replace("limit 20", "limit 15") + "unsafe = 12\n" + DEAD + "unsafe = 0");
        add("promise 26: tight\ntight 0 = -2\n" + SQUARE + "tight = 1 1 1 1 -2\ntight -1 = -2\n" + DEAD + "tight = -1 -1 -2\n" + LINE + "tight = 0 0 0\n"
            + groups + "tight 3 = 5\ntight 1 = 3\n" + "text 3: grid columns 1 rows 1 width 1 limit 1 wear 1;pad at 0 0;budget 3 is 0;\ntight 0 = 8");
    }

    private static void yearScripts() {
        String wears = LINE + "draw 2 20 = 6\n";
        add("promise 31: heat\nheat 0 0 = -2\n" + LINE + "heat 0 = 3 1 -2\nheat 2 0 = -2\nheat -1 0 = -2\nheat 0 -1 = -2\n" + BROKEN + "heat 0 = 3 1\nheat 1 = 0 1\nheat 2 = 3 2\nheat 3 = 0 1\n"
            + DEAD + "heat 0 = 0 1");
        add("promise 32: hottest\nhottest = -2\n" + LINE + "hottest = 0\ndraw 1 1 = 0\nhottest = 0\n" + BROKEN + "hottest = 0\ndraw 1 2 = 6\nhottest = 2\ndraw 1 3 = 2\nhottest = 0\n"
            + DEAD + "hottest = -1\n" + SINGLE + "hottest = -1\n" + LINE + "draw 2 0 = 6\nhottest = -1\n" + DEAD + "feeds 0 = 1\ndraw 1 1 = 3\nhottest = 0");
        add("promise 33: wearing\nwearing = -2\n" + LINE + "wearing = 0\ndraw 2 10 = 6\nwearing = 0\ndraw 2 11 = 10\nwearing = 3\n" + BROKEN + "wearing = 1\ndraw 2 4 = 3\nwearing = 1\ndraw 2 5 = 4\nwearing = 5");
        add("promise 34: aged\naged 0 0 = -2\n" + wears + "aged 0 0 = 2\naged 1 0 = 1\naged 1 1 = 1\naged 2 0 = 0\naged 2 1 = 0\naged 3 0 = 0\naged 100 1 = 0\naged 101 0 = -2\naged -1 0 = -2\naged 0 2 = -2\n"
            + "aged 0 -1 = -2\ncount 5 = 1\nstrap 0 2 = 2\n" + BROKEN + "aged 1 0 = 1\naged 2 0 = 0\naged 1 2 = 2\naged 100 2 = 2\naged 100 1 = 0");
        add("promise 35: lasts\nlasts = -2\n" + LINE + "lasts = -1\n" + wears + "lasts = 0\n" + BROKEN + "lasts = 0\ndraw 4 0 = 5\nlasts = 2\n" + DEAD + "lasts = 0\n"
            + "text 3: grid columns 3 rows 1 width 4 limit 10 wear 1;pad at 0 0;load at 2 0 draws 5;\nlasts = 4\ncalms = 4");
        add("promise 36: worn\nworn 0 = -2\n" + LINE + "worn = -1 -1 -2\n" + wears + "worn = 2 2 -2\nworn -1 = -2\n" + BROKEN + "worn = 2 0 -1 0 -2");
        add("promise 37: calms\ncalms = -2\n" + LINE + "calms = 0\n" + wears + "calms = 2\n" + BROKEN + "calms = 2\n" + DEAD + "calms = 0");
    }

    private static void searchScripts() {
        add("promise 38: pad\npad 0 = -2\n" + LINE + "pad = 2 1 -1 -1\npad -1 = -2\npad 2147483647 = -1\n" + SQUARE + "pad = 3 1 2 -1\n" + DEAD + "pad = 1 0 -1\n" + BROKEN + "pad = 4 1 2 -1\n"
            + SINGLE + "pad 0 = -1\n" + CROSS + "pad = 0 8 1 3 2 6 5 7 -1");
        add("promise 39: pads\npads 0 = -2\n" + LINE + "pads = 0 4 6 -1 -1 -1 -1 -1 -1 -1 -2\npads -1 = -2\n" + SQUARE + "pads = 0 8 6 14 -1\n" + BROKEN + "pads = 0 16 18 22 -1\n" + SINGLE + "pads = 0 -1\n"
            + CROSS + "pads = 0 1 40 97 325 327");
        add("promise 40: padded\npadded 0 0 = -2\n" + LINE + "padded 0 = 6 1 -2\npadded 1 = 0 1\npadded 3 = -1 -1 -2\npadded 10 0 = -2\npadded -1 0 = -2\n" + SQUARE + "padded 1 = 2 1\npadded 2 = 2 1\npadded 3 = 0 1\n"
            + DEAD + "padded 0 = 0 1\npadded 1 = 0 1");
        add("promise 41: enough\nenough = -2\n" + LINE + "enough = 0\n" + SQUARE + "enough = 1\n" + DEAD + "enough = 1\n" + SINGLE + "enough = 0\n"
            + "text 4: grid columns 3 rows 1 width 0 limit 0 wear 1;load at 0 0 draws 1;load at 1 0 draws 1;load at 2 0 draws 1;\nenough = 3");
        String steps = LINE + "draw 2 20 = 6\n";
        add("promise 42: widens\nwidens = -2\n" + LINE + "widens = 0\n" + steps + "widens = 4\n" + LINE + "draw 2 99 = 6\nwidens = 4\n" + DEAD + "widens = 0\n" + BROKEN + "widens = 1\n" + SINGLE + "widens = 0\n"
            + "text 3: grid columns 9 rows 1 width 0 limit 5 wear 5;pad at 0 0;load at 8 0 draws 9;\nwidens = 0");
        add("promise 42: no more than 20 steps\ntext 10: grid columns 9 rows 1 width 1 limit 0 wear 5;pad at 0 0;load at 8 0 draws 9;load at 1 0 draws 9;load at 2 0 draws 9;load at 3 0 draws 9;"
            + "load at 4 0 draws 9;load at 5 0 draws 9;load at 6 0 draws 9;load at 7 0 draws 9;\nwidens = 20\nwiden 19 = 6\nwiden 20 = -1\nwide = 0");
        add("promise 43: widen\nwiden 0 = -2\n" + steps + "widen = 0 1 0 1 -1\nwiden -1 = -2\nwiden 2147483647 = -1\n" + LINE + "widen 0 = -1\n" + BROKEN + "widen = 3 -1");
        add("promise 44: wide\nwide = -2\n" + LINE + "wide = 1\n" + steps + "wide = 1\n" + LINE + "draw 2 99 = 6\nwide = 0\n" + DEAD + "wide = 0\n" + BROKEN + "wide = 1");
        add("promise 45: fewest\nfewest = -2\n" + LINE + "fewest = 0\ndraw 2 11 = 6\nfewest = 1\ndraw 2 13 = 11\nfewest = 2\ndraw 2 16 = 13\nfewest = 3\ndraw 2 18 = 16\nfewest = -1\n"
            + DEAD + "fewest = -1\n" + BROKEN + "fewest = 1\n" + SINGLE + "fewest = 0");
        add("promise 46: few\nfew 0 = -2\n" + LINE + "few 0 = -1\nfew -1 = -2\ndraw 2 11 = 6\nfew = 0 -1\ndraw 2 13 = 11\nfew = 0 0 -1\ndraw 2 16 = 13\nfew = 0 0 1 -1\ndraw 2 18 = 16\nfew = -1 -1\n" + BROKEN + "few = 3 -1");
        add("promise 47: slims\nslims = -2\n" + LINE + "slims = 1\n" + SQUARE + "slims = -1\n" + SINGLE + "slims = 0\n" + DEAD + "slims = -1\ndraw 1 0 = 3\nslims = 1");
        add("promise 48: slim\nslim 0 = -2\n" + LINE + "slim = 1 2 -2\nslim -1 = -2\nstrap 0 2 = 2\n" + SQUARE + "slim = -1 -1 -1 -1 -2\n" + DEAD + "draw 1 0 = 3\nslim = 0 -2");
    }

    private static void lossScripts() {
        add("promise 49: without\nwithout 0 0 = -2\n" + LINE + "without 0 = 0 1 -2\nwithout 1 = 0 1\nwithout 2 0 = -2\nwithout -1 0 = -2\n" + SQUARE + "without 0 = 24 1\nwithout 2 = 12 1\n" + BROKEN + "without 1 = 3 1\nwithout 0 = 3 2");
        add("promise 50: lost\nlost 0 = -2\n" + LINE + "lost = 6 4 -2\nlost -1 = -2\n" + SQUARE + "lost = 0 0 0 0 -2\n" + BROKEN + "lost = 18 16 20 16 -2\n" + DEAD + "lost 0 = 3");
        add("promise 51: vital\nvital = -2\n" + LINE + "vital = 0\n" + SQUARE + "vital = 0\n" + BROKEN + "vital = 2\n" + SINGLE + "vital = -1\n" + DEAD + "vital = 0\nlay 0 0 = 1\nvital = -1");
        add("promise 52: spare\nspare = -2\n" + LINE + "spare = 0\n" + CROSS + "spare = 0\n" + CROSS.replace("limit 20", "limit 30") + "spare = 4095\nlay 3 0 = 1\nspare = 581\n" + DEAD + "draw 1 0 = 3\nspare = 1\nlay 0 0 = 1\nspare = 0");
        String four = "text 3: grid columns 2 rows 2 width 1 limit 12 wear 9;pad at 0 0;load at 1 1 draws 6;\n";
        add("promise 53: pairs\npairs = -2\n" + LINE + "pairs = 0\n" + four + "pairs = 4\n" + four.replace("limit 12", "limit 11") + "pairs = 0\n" + SINGLE + "pairs = 0\n" + CROSS + "pairs = 0\n" + CROSS.replace("limit 20", "limit 30") + "pairs = 30\npair 29 = 911\npair 30 = -1");
        add("promise 54: pair\npair 0 = -2\n" + LINE + "pair = -1 -1\npair -1 = -2\n" + four + "pair = 1 3 102 203 -1\npair 2147483647 = -1");
        add("promise 55: chance\nchance 0 1 = -2\n" + SQUARE + "chance 0 1 = 0\nchance -1 1 = -2\nchance 0 0 = -2\nchance 0 101 = -2\nchance 2147483647 100 = 36\n" + SINGLE + "chance 5 100 = 100\n" + DEAD + "chance 0 4 = 1");
        add("promise 56: luck\nluck 0 1 0 = -2\n" + SQUARE + "luck 0 1 = 5 1 -2\nluck -1 1 0 = -2\nluck 0 0 0 = -2\nluck 0 101 0 = -2\nluck 0 1 -1 = -2\n" + DEAD + "luck 7 100 = 0 1 -2");
        add("promise 57: room\nroom 0 = -2\n" + LINE + "room = 99 8 10 -2\nroom -1 = -2\n" + SQUARE + "room = -1 -1 -1 -1 -2\n" + DEAD + "room = -1 0 -2\n" + BROKEN + "room = -1 -1 -1 -1 0 -2\ndraw 4 0 = 5\nroom = 99 20 20 99 0 -2");
    }

    private static void actScripts() {
        StringBuilder twenty = new StringBuilder();
        for (int i = 0; i < 20; i++) {
            twenty.append("lay 0 ").append(i % 2 == 0 ? 3 : 2).append(" = ").append(i % 2 == 0 ? 2 : 3).append('\n');
        }
        add("promise 58: lay\nlay 0 0 = -2\n" + LINE + "lay 0 2 = -5\nlay 0 5 = -2\nlay 0 -1 = -2\nlay 2 1 = -2\nlay -1 1 = -2\nlay 0 1 = 2\nstrap 0 2 = 1\ndrop 2 = 9 1\nlay 0 4 = 1\ndrop 2 = 9 2\ncount 5 = 2\n"
            + "lay 1 0 = 2\ncount 9 = 4\nholds = 0\n" + LINE + twenty + "lay 0 3 = -5\nlay 0 9 = -2\nstrap 0 2 = 2\ncount 5 = 20");
        add("promise 59: feeds\nfeeds 0 = -2\n" + LINE + "feeds 2 = 2\ncount 8 = 5\ndrop 2 = 0 1\nfeeds 0 = 1\ncount 8 = 4\nfeeds 2 = 0\ncount 9 = 7\nfeeds 3 = -2\nfeeds -1 = -2\ncount 5 = 3\n" + LINE + twenty + "feeds 0 = -5\nfeeds 9 = -2\ncount 8 = 1");
        add("promise 60: draw\ndraw 0 0 = -2\n" + LINE + "draw 2 6 = -5\ndraw 2 100 = -2\ndraw 2 -1 = -2\ndraw 3 1 = -2\ndraw -1 1 = -2\ndraw 2 99 = 6\nnode 2 1 = 99\ndrop 2 = 99 1\ndraw 2 0 = 99\ndraw 1 4 = 0\ndrop 1 = 2 1\ndraw 0 0 = -5\n"
            + LINE + twenty + "draw 2 7 = -5\ndraw 2 100 = -2");
        add("promise 61: year\nyear = -2\n" + LINE + "year = 0\ncount 5 = 1\ndraw 2 20 = 6\nyear = 2\narea = 2\nyear = 2\narea = 0\nyear = 0\ncount 5 = 5\n" + LINE + twenty + "year = -5\ncount 5 = 20\n" + BROKEN + "year = 1\nstrap 0 2 = 1\nstrap 2 2 = 2");
        add("promise 62: did\ndid 0 0 = -2\n" + LINE + "did 0 = 0 0 -2\nlay 0 1 = 2\nlay 1 4 = 2\nlay 0 3 = 1\ndid 0 = 3 5 -2\nfeeds 2 = 2\nfeeds 2 = 1\ndid 1 = 2 0 -2\ndraw 2 60 = 6\ndraw 1 3 = 0\ndid 2 = 2 6 -2\nyear = 2\nyear = 2\nyear = 2\n"
            + "did 3 = 3 6 -2\ndid 4 0 = -2\ndid -1 0 = -2\ndid 0 -1 = -2\nundo = 9\ndid 3 = 2 4 -2\nanew = 9\ndid 0 = 0 0 -2\ndid 3 = 0 0 -2");
        add("promise 63: image\nimage 0 = 0\nimage 3 = -2\nimage -1 = -2\n" + LINE + "image 1 = 0\nlay 0 1 = 2\nimage 2 = 0\nimage 1 = 0\nlay 0 0 = 1\nback 1 = 0\nstrap 0 2 = 1\ncount 5 = 1");
        add("promise 64: back\nback 0 = -6\nback 3 = -2\nback -1 = -2\n" + LINE + "back 2 = -6\nlay 0 1 = 2\ndraw 2 20 = 6\nimage 0 = 0\nfeeds 1 = 2\nyear = 1\n" + SQUARE + "image 1 = 0\nback 0 = 0\ncount = 3 1 10 5 2 2 3 0 1 0 -1\n"
            + "node 2 1 = 20\nstrap 0 2 = 1\ndid 2 = 1 6 -2\nundo = 1\nnode 2 1 = 6\nundo = 0\nstrap 0 2 = 2\nback 1 = 0\ncount = 2 2 3 9 4 0 6 0 1 0 -1\nbudget 0 = 8\nfeed 1 2 3 4 5 = 20\nback 0 = 0\ncount 7 = 20\nfault 0 = 0");
        add("promise 64: an image without a GRID\nimage 2 = 0\n" + LINE + "back 2 = 0\ncount = 0 0 0 0 0 0 0 0 0 0 -1\nholds = -2");
        add("promise 65: undo\nundo = -2\n" + LINE + "undo = -5\nlay 0 1 = 2\nfeeds 2 = 2\nfeeds 2 = 1\ndraw 2 30 = 6\nyear = 2\narea = 1\nundo = 4\narea = 3\nundo = 3\nnode 2 1 = 6\nundo = 2\ncount 8 = 5\nundo = 1\ncount 8 = 1\nundo = 0\nstrap 0 2 = 2\nundo = -5\n"
            + "drop 2 = 6 1\n" + LINE + twenty + "undo = 19\nlay 0 4 = 3");
        add("promise 66: anew\nanew = -2\n" + LINE + "anew = 0\nlay 0 1 = 2\nfeeds 2 = 2\ndraw 1 30 = 0\nyear = 2\nanew = 4\ncount = 3 1 10 5 2 0 3 0 1 0 -1\nstrap 0 2 = 2\nnode 1 1 = 0\ndrop 2 = 6 1\nundo = -5\nanew = 0");
    }
}
