/** Nine NODES, twelve STRAPS: what is asked of the last ones, and of all. OracleTest's model has the same answers. */
final class FullEdges extends Edges {
    @Override
    void addAll() {
        asTold();
        drawingMore();
        lastStraps();
        manyDigits();
    }

    private void full(int promise, String script) {
        edge(promise, "nine NODES, twelve STRAPS", "tell FULL\n" + script);
    }

    private void asTold() {
        full(6, "count = 3 3 40 3 12 0 8 0 1 0");
        full(7, "strap 11 = 7 8 2 -1");
        full(8, "between 8 7 = 11");
        full(9, "node 8 = 0 9 3 0 -1");
        full(10, "budget = 999 999 999 8");
        full(11, "drop 8 = 942 41 -2\ndrop 9 0 = -2");
        full(12, "through 11 = 250 41 LMIN\nthrough 12 0 = LMIN");
        full(13, "gives 0 = 25 1 -2\ngives 8 0 = -1");
        full(14, "chief = 0\nfeeds 8 = 2\nfeeds 0 = 1\nchief = 8");
        full(15, "area = 13");
        full(16, "worst = 8");
        full(17, "over = 0\ndraw 8 99 = 9\nover = 510");
        full(18, "holds = 1\ndraw 8 99 = 9\nholds = 0");
        full(19, "loss = 19796 41 -2");
        full(20, "moves 8 8 = 111 82 -2\nmoves 9 8 0 = -2\nmoves 8 9 0 = -2");
        full(21, "resists 0 8 = 111 82 -2\nresists 9 8 0 = -2\nresists 8 9 0 = -2");
        full(22, "most 8 = 1773 82 -2\nmost 9 0 = -2");
        full(23, "drawn 8 8 = 8\ndrawn 8 = 0 0 7 4 5 0 0 0 8 -2\ndrawn 0 8 = 8");
        full(24, "foe = 8");
        full(25, "unsafe = 0\ndraw 7 99 = 0\nunsafe = 510");
        full(26, "tight 8 = 8\ntight 9 = -2");
        full(27, "share 8 8 = 333 628 -2\nshare 0 8 = 0 1 -2");
        full(28, "feeder 8 = 8 7 6 3 0 -1");
        full(29, "parts = 1\nlay 9 0 = 1\nlay 11 0 = 2\nparts = 2");
        full(30, "reached 8 = 511\nlay 9 0 = 1\nlay 11 0 = 2\nreached 8 = 256\nreached 0 = 255");
        full(31, "heat 11 = 125 41 -2\nheat 12 0 = -2");
        full(32, "hottest = 1");
        full(33, "wearing = 3183");
        full(34, "aged 0 11 = 2\naged 1 11 = 1\naged 100 11 = 1\naged 1 0 = 0\naged 1 12 = -2");
        full(35, "lasts = 1");
        full(36, "worn 11 = -1\nworn 0 = 1\nworn 12 = -2");
        full(37, "calms = 1");
        full(38, "pad 0 = 5\npad 7 = 6\npad 8 = -1");
        full(39, "pads 1 = 32\npads 8 = 510\npads 9 = -1");
        full(40, "padded 2 = 47 16 -2\npadded 8 = 0 1 -2\npadded 9 = -1 -1 -2");
        full(41, "enough = 0");
        full(47, "slims = 6");
        full(48, "slim 10 = 1\nslim 11 = 1\nslim 12 = -2");
        full(49, "without 11 = 234 7 -2\nwithout 12 0 = -2");
        full(50, "lost 11 = 0\nlost 12 = -2");
        full(51, "vital = 0");
        full(52, "spare = 4092");
        full(53, "pairs = 6");
        full(54, "pair 0 = 203\npair 5 = 911\npair 6 = -1");
        full(55, "chance 3 50 = 50");
        full(56, "luck 3 50 = 75 4 -2");
        full(57, "room 8 = 21\nroom 7 = 16\nroom 9 = -2");
    }

    private void drawingMore() {
        full(41, "draw 8 99 = 9\nenough = 1\npads 1 = 256\npadded 1 = 565 74");
        full(42, "draw 8 99 = 9\nwidens = 20\nwide = 0");
        full(43, "draw 8 99 = 9\nwiden 0 = 1\nwiden 1 = 0\nwiden 19 = 8\nwiden 20 = -1");
        full(44, "draw 8 22 = 9\nwide = 1\ndraw 8 99 = 22\nwide = 0");
        full(45, "draw 8 24 = 9\nfewest = 1\ndraw 8 28 = 24\nfewest = 2\ndraw 8 99 = 28\nfewest = -1");
        full(46, "draw 8 28 = 9\nfew = 0 0 -1\ndraw 8 99 = 28\nfew {0 1 2 3} = -1");
        full(48, "draw 8 99 = 9\nslim 11 = -1");
        full(51, "draw 8 99 = 9\nvital = 1");
        full(57, "draw 8 99 = 9\nroom 8 = 21\nroom 7 = -1");
        full(61, "draw 8 99 = 9\nyear = 12\nstrap 11 2 = 1\narea = 1\ncount 9 = 510\nundo = 1\narea = 13\nstrap 11 2 = 2");
    }

    private void large(int promise, String script) {
        edge(promise, "fractions of many digits", "tell LARGE\n" + script);
    }

    private void manyDigits() {
        large(11, "drop 8 = 17508723 96424\ndrop 4 = 3441365 24106");
        large(12, "through 11 = 1050195 24106");
        large(13, "gives 0 = 771 1");
        large(16, "worst = 8");
        large(19, "loss = 11011274741 96424");
        large(20, "moves 8 7 = 13847 48212");
        large(21, "resists 2 6 = 4910 12053");
        large(22, "most 8 = 17508723 96424");
        large(24, "foe = 8");
        large(27, "share 8 7 = 858514 5836241");
        large(31, "heat 0 = 1270968 12053");
        large(32, "hottest = 1");
        large(35, "lasts = 0\ncalms = 4\naged 5 11 = 0");
        large(38, "pad = 8 4 3");
        large(39, "pads = 0 256 96 112");
        large(40, "padded 1 = 9506099 157612\npadded 2 = 117213 4321");
        large(42, "widens = 4\nwiden 0 = 1\nfewest = -1");
        large(49, "without 0 = 877115 2116");
        large(51, "vital = 0");
        large(55, "chance 9 100 = 63");
        large(56, "luck 9 100 = 3382807 24106");
        large(61, "year = 12\ndrop 8 = 4405951 17403");
    }

    private void lastStraps() {
        String apart = "lay {4 7 9} 0 = 1\nlay 11 0 = 2\n";
        full(45, apart + "fewest = 1");
        full(46, apart + "few = 11 -1");
        full(42, apart + "widens = 1\nwiden = 11 -1");
        full(58, apart + "count 9 = 288\nlay 11 4 = 0\nstrap 11 2 = 4\ncount 9 = 32\nlay 12 1 = -2");
        full(59, "feeds 8 = 2\ncount 8 = 257\nfeeds 9 = -2");
        full(60, "draw 8 99 = 9\nnode 8 1 = 99\ndraw 9 1 = -2");
        full(63, "lay 11 4 = 2\ndraw 8 99 = 9\nimage 2 = 0\ntell BARE\nback 2 = 0\nstrap 11 = 7 8 4\nnode 8 = 0 99 3 0\nbudget 3 = 8");
        full(65, "lay 11 4 = 2\ndraw 8 99 = 9\nfeeds 8 = 2\nundo = 2\nundo = 1\nundo = 0\nstrap 11 2 = 2\nnode 8 = 0 9 3 0");
        full(66, "lay 11 4 = 2\ndraw 8 99 = 9\nfeeds 8 = 2\nyear\nanew = 4\nstrap 11 2 = 2\nnode 8 = 0 9 3 0\narea = 13");
    }
}
