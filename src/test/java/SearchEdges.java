/** Boundary cases of promises 38 to 48: PADS more, STRAPS wider and less wide (Terms V). */
final class SearchEdges extends Edges {
    @Override
    void addAll() {
        pad();
        pads();
        padded();
        enough();
        widens();
        widenAndWide();
        fewest();
        few();
        slims();
        slim();
    }

    private void pad() {
        edge(38, "as many as NODES are left", """
            tell LINE
            pad = 2 1 -1 -1
            pad {3 9 MAX} = -1
            tell SINGLE
            pad {0 1} = -1
            """);
        edge(38, "all alike: the least NODES, nine of them", """
            tell BARE
            pad = 0 1 2 3 4 5 6 7 8 -1
            """);
        edge(38, "all are PADS", """
            tell LINE
            feeds {1 2}
            pad 0 = -1
            """);
        edge(38, "DEAD ones that have a LOAD first, then the DROP, then the least NODE", """
            tell BROKEN
            pad = 4 1 2 -1
            draw 4 0 = 5
            pad = 1 2 4 -1
            tell SQUARE
            pad = 3 1 2 -1
            """);
        edge(38, "one by one, not best of all", """
            tell CROSS
            pad = 0 8
            pads 2 = 40
            """);
        edge(38, "i below 0", """
            tell LINE
            pad {-1 -2 MIN} = -2
            """);
        edge(38, "there is no GRID", """
            pad {-1 0 9} = -2
            """);
        edge(38, "asking changes nothing", """
            tell LINE
            kept pad 1 = 1
            count 8 = 1
            """);
    }

    private void pads() {
        edge(39, "n 0: none", """
            tell LINE
            pads 0 = 0
            tell SINGLE
            pads 0 = 0
            """);
        edge(39, "n 9: all", """
            tell BARE
            pads 9 = 511
            pads 8 = 255
            feeds 0 = 1
            pads 8 = 510
            pads 9 = -1
            """);
        edge(39, "there are not so many", """
            tell LINE
            pads 2 = 6
            pads {3 4 9} = -1
            tell SINGLE
            pads {1 9} = -1
            """);
        edge(39, "the least of several", """
            tell BARE
            pads = 0 1 3 7 15
            tell SQUARE
            pads = 0 8 6 14 -1
            """);
        edge(39, "DEAD ones that have a LOAD first", """
            tell BROKEN
            pads = 0 16 18 22 -1
            """);
        edge(39, "n is none such", """
            tell LINE
            pads {-1 10 11 MIN MAX} = -2
            """);
        edge(39, "there is no GRID", """
            pads {-1 0 1 9 10} = -2
            """);
        edge(39, "asking changes nothing", """
            tell LINE
            kept pads 2 = 6
            count 8 = 1
            """);
    }

    private void padded() {
        edge(40, "n 0: as it is", """
            tell LINE
            padded 0 = 6 1 -2
            tell WEARS
            padded 0 = 5 4 -2
            """);
        edge(40, "no DROP then, all DEAD: 0 by 1", """
            tell LINE
            padded {1 2} 0 = 0
            padded {1 2} 1 = 1
            tell DEAD
            padded 0 = 0 1 -2
            """);
        edge(40, "DEAD ones first: the DROP is that of the set told", """
            tell BROKEN
            padded 1 = 3 1
            padded 2 = 3 2
            padded 3 = 0 1
            """);
        edge(40, "there are not so many", """
            tell LINE
            padded {3 9} {0 1} = -1
            """);
        edge(40, "n is none such, no such what", """
            tell LINE
            padded {-1 10 MIN MAX} {0 1} = -2
            padded 0 {-1 2 MIN MAX} = -2
            padded 9 2 = -2
            """);
        edge(40, "there is no GRID", """
            padded {0 9} {0 1} = -2
            """);
    }

    private void enough() {
        edge(41, "0: it holds", """
            tell LINE
            enough = 0
            tell BARE
            enough = 0
            """);
        edge(41, "at LIMIT it holds, above it takes one", """
            tell LINE
            draw 2 10 = 6
            enough = 0
            draw 2 11 = 10
            enough = 1
            """);
        edge(41, "as many as draw, all nine", """
            tell BARE
            draw 8 1 = 0
            enough = 1
            draw {0 1 2 3 4 5 6} 1 = 0
            enough = 8
            draw 7 1 = 0
            enough = 9
            feeds 3 = 1
            enough = 8
            """);
        edge(41, "there is no GRID", """
            enough = -2
            """);
    }

    private void widens() {
        edge(42, "it holds: none", """
            tell LINE
            widens = 0
            tell SINGLE
            widens = 0
            """);
        edge(42, "till at LIMIT", """
            tell LINE
            draw 2 10 = 6
            widens = 0
            draw 2 11 = 10
            widens = 1
            draw 2 12 = 11
            widens = 1
            draw 2 13 = 12
            widens = 2
            draw 2 20 = 13
            widens = 4
            """);
        edge(42, "all are 4 wide", """
            tell LINE
            draw 2 99 = 6
            widens = 4
            wide = 0
            lay 0 4 = 2
            lay 1 4 = 2
            widens = 0
            wide = 0
            """);
        edge(42, "no better than without: it ends", """
            text 3: grid columns 3 rows 1 width 0 limit 99 wear 9;pad at 0 0;load at 2 0 draws 1;
            widens = 0
            wide = 0
            fewest = 2
            tell DEAD
            widens = 0
            """);
        edge(42, "fewer DEAD ones are better, though the DROP is greater", """
            text 4: grid columns 3 rows 1 width 0 limit 99 wear 9;pad at 0 0;load at 1 0 draws 9;load at 2 0 draws 9;
            widens = 2
            widen = 0 1 -1
            wide = 1
            """);
        edge(42, "up to 20 steps", """
            text 10: grid columns 9 rows 1 width 1 limit 0 wear 5;pad at 0 0;load at 8 0 draws 9;load at 1 0 draws 9;load at 2 0 draws 9;load at 3 0 draws 9;\
            load at 4 0 draws 9;load at 5 0 draws 9;load at 6 0 draws 9;load at 7 0 draws 9;
            widens = 20
            widen 19 = 6
            widen 20 = -1
            wide = 0
            """);
        edge(42, "there is no STRAP", """
            tell SINGLE
            feeds 0 = 0
            holds = 0
            widens = 0
            wide = 0
            """);
        edge(42, "there is no GRID", """
            widens = -2
            """);
    }

    private void widenAndWide() {
        edge(43, "the least of several; one again counts again", """
            tell LINE
            draw 2 20 = 6
            widen = 0 1 0 1 -1 -1
            """);
        edge(43, "there are not so many", """
            tell LINE
            widen {0 1 19 20 MAX} = -1
            draw 2 11 = 6
            widen = 0 -1
            widen MAX = -1
            """);
        edge(43, "i below 0", """
            tell LINE
            widen {-1 MIN} = -2
            """);
        edge(43, "there is no GRID", """
            widen {-1 0} = -2
            """);
        edge(43, "asking changes nothing", """
            tell LINE
            draw 2 11 = 6
            kept widen 0 = 0
            strap 0 2 = 2
            """);
        edge(44, "it holds now, behind them, never", """
            tell LINE
            wide = 1
            draw 2 20 = 6
            holds = 0
            wide = 1
            draw 2 21 = 20
            wide = 0
            """);
        edge(44, "there is no GRID", """
            wide = -2
            """);
    }

    private void fewest() {
        edge(45, "0: it holds", """
            tell LINE
            fewest = 0
            tell SINGLE
            fewest = 0
            """);
        edge(45, "0 to 3 steps, then NONE; at LIMIT it holds", """
            tell LINE
            draw 2 10 = 6
            fewest = 0
            draw 2 12 = 10
            fewest = 1
            draw 2 13 = 12
            fewest = 2
            draw 2 15 = 13
            fewest = 2
            draw 2 17 = 15
            fewest = 3
            draw 2 18 = 17
            fewest = -1
            """);
        edge(45, "3 STRAPS that are not there, 4 of them", """
            text 3: grid columns 5 rows 1 width 0 limit 99 wear 9;pad at 0 0;load at 3 0 draws 1;
            fewest = 3
            draw 4 1 = 0
            fewest = -1
            """);
        edge(45, "no more than 4 wide", """
            text 3: grid columns 2 rows 1 width 3 limit 1 wear 9;pad at 0 0;load at 1 0 draws 4;
            fewest = 1
            draw 1 5 = 4
            fewest = -1
            lay 0 4 = 3
            fewest = -1
            """);
        edge(45, "there is no STRAP", """
            tell SINGLE
            feeds 0 = 0
            fewest = -1
            """);
        edge(45, "there is no GRID", """
            fewest = -2
            """);
    }

    private void few() {
        edge(46, "the first by STRAPS, told rising", """
            text 3: grid columns 2 rows 2 width 0 limit 9 wear 9;pad at 0 0;load at 1 1 draws 1;
            fewest = 2
            few = 0 2 -1
            text 3: grid columns 5 rows 1 width 0 limit 99 wear 9;pad at 4 0;load at 1 0 draws 1;
            few = 1 2 3 -1
            """);
        edge(46, "one STRAP more than once", """
            tell LINE
            draw 2 13 = 6
            few = 0 0 -1
            draw 2 15 = 13
            few = 0 1 -1
            draw 2 17 = 15
            few = 0 0 1 -1
            text 4: grid columns 3 rows 1 width 4 limit 7 wear 9;strap at 1 0 east width 1;pad at 0 0;load at 2 0 draws 12;
            few = 1 1 -1
            draw 2 14 = 12
            few = 1 1 1 -1
            text 5: grid columns 3 rows 1 width 2 limit 12 wear 9;strap at 0 0 east width 3;pad at 0 0;load at 2 0 draws 24;load at 0 0 draws 1;
            few = 0 1 1 -1
            """);
        edge(46, "one STRAP more than once, ahead of others", """
            text 4: grid columns 4 rows 1 width 4 limit 10 wear 9;strap at 1 0 east width 1;pad at 0 0;load at 3 0 draws 12;
            few = 1 1 -1
            draw 3 13 = 12
            few = 1 1 1 -1
            text 5: grid columns 4 rows 1 width 4 limit 18 wear 9;strap at 0 0 east width 3;strap at 1 0 east width 2;pad at 0 0;load at 3 0 draws 24;
            few = 0 1 1 -1
            """);
        edge(46, "a STRAP that is 4 wide is none of them", """
            text 4: grid columns 3 rows 1 width 4 limit 13 wear 9;strap at 1 0 east width 3;pad at 0 0;load at 2 0 draws 24;
            drop 2 = 14 1
            fewest = 1
            few = 1 -1
            """);
        edge(46, "there are not so many, 3 do not do", """
            tell LINE
            few {0 1 2 3 MAX} = -1
            draw 2 11 = 6
            few 0 = 0
            few {1 2 3 MAX} = -1
            draw 2 99 = 11
            few {0 1 2 3 MAX} = -1
            """);
        edge(46, "i below 0", """
            tell LINE
            few {-1 MIN} = -2
            """);
        edge(46, "there is no GRID", """
            few {-1 0} = -2
            """);
        edge(46, "asking changes nothing", """
            tell LINE
            draw 2 11 = 6
            kept few 0 = 0
            strap 0 2 = 2
            """);
    }

    private void slims() {
        edge(47, "it does not hold now", """
            tell SQUARE
            slims = -1
            tell DEAD
            slims = -1
            """);
        edge(47, "none can be less wide", """
            tell SINGLE
            slims = 0
            tell BARE
            slims = 0
            tell LINE
            draw 2 10 = 6
            slims = 0
            """);
        edge(47, "at LIMIT it still holds", """
            tell WEARS
            slims = 1
            text 3: grid columns 2 rows 1 width 4 limit 5 wear 1; pad at 0 0; load at 1 0 draws 5;
            slims = 3
            """);
        edge(47, "all of them, 48 times", """
            text 2: grid columns 3 rows 3 width 4 limit 0 wear 1;pad at 0 0;
            slims = 48
            slim {0 5 11} = 0
            """);
        edge(47, "DEAD without a LOAD is no matter, with one it is", """
            tell DEAD
            draw 1 0 = 3
            slims = 1
            feeds 0 = 1
            draw 1 1 = 0
            slims = 0
            """);
        edge(47, "there is no GRID", """
            slims = -2
            """);
    }

    private void slim() {
        edge(48, "the least of several", """
            tell LINE
            slims = 1
            slim = 1 2 -2
            """);
        edge(48, "that by which SCORE is best, though the first would do", """
            text 4: grid columns 3 rows 1 width 2 limit 10 wear 9;pad at 0 0;load at 1 0 draws 1;load at 2 0 draws 6;
            slims = 1
            slim = 2 1 -2
            """);
        edge(48, "it does not hold now", """
            tell SQUARE
            slim {0 1 2 3} = -1
            """);
        edge(48, "no such STRAP", """
            tell LINE
            slim {-1 2 12 MIN MAX} = -2
            tell SQUARE
            slim {-1 4 12 MIN MAX} = -2
            tell SINGLE
            slim 0 = -2
            """);
        edge(48, "asking changes nothing", """
            tell LINE
            kept slim 0 = 1
            strap 0 2 = 2
            """);
    }
}
