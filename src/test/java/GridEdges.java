/** Boundary cases of promises 6 to 21: what the GRID is, DROPS, what goes where (Terms II). */
final class GridEdges extends Edges {
    @Override
    void addAll() {
        count();
        strapAndBetween();
        nodeAndBudget();
        drop();
        through();
        givesAndChief();
        areaAndWorst();
        overAndHolds();
        loss();
        moves();
        resists();
    }

    private void count() {
        edge(6, "NONE for others", """
            count {-1 10 11 MIN MAX} = -1
            tell CROSS
            count {-1 10 11 MIN MAX} = -1
            """);
        edge(6, "what 0 to 3: columns, rows, LIMIT, WEAR", """
            text 1: grid columns 4 rows 2 width 1 limit 7 wear 3;
            count = 4 2 7 3
            text 1: grid columns 2 rows 4 width 1 limit 0 wear 999;
            count = 2 4 0 999
            """);
        edge(6, "what 4: STRAPS of width 0, too", """
            tell BARE
            count 4 = 12
            tell BROKEN
            count 4 = 4
            lay 0 0 = 2
            count 4 = 4
            """);
        edge(6, "what 4: none, if there is one NODE", """
            tell SINGLE
            count 4 = 0
            """);
        edge(6, "what 5: 0 to 20 acts, no more", """
            tell LINE
            count 5 = 0
            19x year = 0
            count 5 = 19
            year = 0
            count 5 = 20
            year = -5
            count 5 = 20
            undo = 19
            count 5 = 19
            anew = 19
            count 5 = 0
            """);
        edge(6, "what 5: a call that is refused is no act", """
            tell LINE
            lay 0 2 = -5
            lay 0 5 = -2
            draw 2 6 = -5
            draw 2 100 = -2
            feeds 3 = -2
            count 5 = 0
            """);
        edge(6, "what 6: LINES, as told", """
            tell BROKEN
            count 6 = 8
            lay 0 1 = 2
            count 6 = 8
            put: nonsense
            grid = -4
            count 6 = 8
            grid = 0
            count 6 = 0
            """);
        edge(6, "what 7: bytes of the TAPE, 0 to 700", """
            count 7 = 0
            feed 1 2 3 4 5 = 20
            count 7 = 20
            end 13 = 13
            count 7 = 13
            grid = -4
            count 7 = 0
            tape 700
            count 7 = 700
            """);
        edge(6, "what 8: PADS as bits, none to all", """
            tell BARE
            count 8 = 0
            feeds 8 = 1
            count 8 = 256
            feeds {0 1 2 3 4 5 6 7}
            count 8 = 511
            feeds 0 = 8
            count 8 = 510
            """);
        edge(6, "what 9: DEAD NODES as bits, none to all", """
            tell BARE
            count 9 = 511
            feeds 4 = 1
            count 9 = 495
            tell CROSS
            count 9 = 0
            tell DEAD
            count 9 = 3
            feeds 1 = 1
            count 9 = 0
            lay 0 0 = 1
            count 9 = 1
            """);
    }

    private void strapAndBetween() {
        edge(7, "east, then south, NODE by NODE", """
            text 1: grid columns 2 rows 4 width 3 limit 7 wear 3;
            strap 0 = 0 1 3
            strap 1 = 0 2 3
            strap 2 = 1 3 3
            strap 3 = 2 3 3
            strap 6 = 4 5 3
            strap 9 = 6 7 3
            strap 10 = -1 -1 -1
            text 1: grid columns 4 rows 2 width 3 limit 7 wear 3;
            strap 0 = 0 1 3
            strap 1 = 0 4 3
            strap 5 = 2 6 3
            strap 6 = 3 7 3
            strap 7 = 4 5 3
            strap 9 = 6 7 3
            strap 10 = -1 -1 -1
            """);
        edge(7, "one row, one column", """
            text 1: grid columns 9 rows 1 width 1 limit 7 wear 3;
            strap 0 = 0 1 1
            strap 7 = 7 8 1
            strap 8 = -1 -1 -1
            text 1: grid columns 1 rows 9 width 1 limit 7 wear 3;
            strap 0 = 0 1 1
            strap 7 = 7 8 1
            strap 8 = -1 -1 -1
            """);
        edge(7, "no such STRAP", """
            tell LINE
            strap {-1 2 3 11 12 MIN MAX} {0 1 2} = -1
            tell CROSS
            strap 11 = 7 8 1
            strap {-1 12 13 MIN MAX} {0 1 2} = -1
            tell SINGLE
            strap {-1 0 1} {0 1 2} = -1
            """);
        edge(7, "no such what", """
            tell LINE
            strap 0 {-1 3 4 MIN MAX} = -1
            """);
        edge(7, "of width 0, too", """
            tell BARE
            strap 11 = 7 8 0 -1
            lay 11 4 = 0
            strap 11 = 7 8 4 -1
            """);
        edge(8, "either NODE first", """
            tell CROSS
            between 4 5 = 7
            between 5 4 = 7
            between 1 4 = 3
            between 4 1 = 3
            """);
        edge(8, "none: itself, not side by side, row to row", """
            tell CROSS
            between 4 4 = -1
            between 0 2 = -1
            between 0 4 = -1
            between 2 3 = -1
            between 3 2 = -1
            between 0 8 = -1
            tell SINGLE
            between 0 0 = -1
            """);
        edge(8, "no such NODES", """
            tell LINE
            between {-1 3 MIN MAX} 0 = -2
            between 0 {-1 3 MIN MAX} = -2
            between 3 3 = -2
            between -1 -1 = -2
            """);
        edge(8, "a STRAP of width 0 has its number", """
            tell BARE
            between 0 1 = 0
            between 8 7 = 11
            """);
    }

    private void nodeAndBudget() {
        edge(9, "what 0: a PAD or not", """
            tell LINE
            node 0 0 = 1
            node 2 0 = 0
            feeds 0 = 0
            node 0 0 = 0
            """);
        edge(9, "what 1: 0 where no LOAD was told, 1 to 99", """
            text 3: grid columns 3 rows 1 width 1 limit 7 wear 3;load at 1 0 draws 1;load at 2 0 draws 99;
            node 0 1 = 0
            node 1 1 = 1
            node 2 1 = 99
            """);
        edge(9, "what 2: GROUP, 0 without; it stays with what is drawn", """
            tell BROKEN
            node 1 2 = 0
            node 0 2 = 0
            node 2 2 = 2
            draw 2 0 = 3
            node 2 2 = 2
            """);
        edge(9, "what 3: DEAD or not; a PAD never is", """
            tell BROKEN
            node 4 3 = 1
            node 3 3 = 0
            node 2 3 = 0
            lay 2 0 = 2
            node 2 3 = 1
            node 3 3 = 0
            """);
        edge(9, "no such NODE, no such what", """
            tell LINE
            node {-1 3 9 MIN MAX} {0 1 2 3} = -1
            node 0 {-1 4 5 MIN MAX} = -1
            """);
        edge(10, "0 to 3; no such GROUP", """
            tell GROUPS
            budget = 9 7 3 999
            budget {-1 4 5 MIN MAX} = -1
            """);
        edge(10, "999 without", """
            tell LINE
            budget = 999 999 999 999 -1
            """);
        edge(10, "no GRID", """
            budget {-1 0 1 2 3 4} = -1
            tell GROUPS
            grid = 0
            budget {-1 0 1 2 3 4} = -1
            """);
    }

    private void drop() {
        edge(11, "of a PAD 0 by 1, if it draws, if it has no STRAP", """
            tell SINGLE
            drop 0 = 0 1 -2
            draw 0 99 = 7
            drop 0 = 0 1 -2
            tell BARE
            feeds 4 = 1
            draw 4 9 = 0
            drop 4 = 0 1 -2
            """);
        edge(11, "nothing drawn: nought is 0 by 1", """
            tell LINE
            draw 2 0 = 6
            drop 2 = 0 1 -2
            drop 1 = 0 1 -2
            """);
        edge(11, "in lowest terms", """
            text 3: grid columns 2 rows 1 width 4 limit 9 wear 9;pad at 0 0;load at 1 0 draws 6;
            drop 1 = 3 2 -2
            draw 1 8 = 6
            drop 1 = 2 1 -2
            draw 1 99 = 8
            drop 1 = 99 4 -2
            draw 1 1 = 99
            drop 1 = 1 4 -2
            """);
        edge(11, "DEAD: NONE", """
            tell BROKEN
            drop 4 = -1 -1 -2
            tell DEAD
            drop {0 1} {0 1} = -1
            """);
        edge(11, "no such NODE, no such what", """
            tell LINE
            drop {-1 3 9 MIN MAX} {0 1} = -2
            drop 2 {-1 2 MIN MAX} = -2
            """);
        edge(11, "a PAD more than one way off: what comes through STRAPS is the LOAD", """
            tell WAYS
            drop 1 = 3 1
            drop 2 = 3 1
            drop 3 = 6 1
            lay 0 3 = 1
            drop 1 = 6 5
            drop 3 = 24 5
            drop 2 = 12 5
            """);
        edge(11, "the greatest: eight in a row, each draws 99", """
            text 10: grid columns 9 rows 1 width 1 limit 9 wear 9;pad at 0 0;load at 1 0 draws 99;load at 2 0 draws 99;load at 3 0 draws 99;\
            load at 4 0 draws 99;load at 5 0 draws 99;load at 6 0 draws 99;load at 7 0 draws 99;load at 8 0 draws 99;
            drop 1 = 792 1
            drop 8 = 3564 1
            """);
        edge(11, "long fractions", """
            text 8: grid columns 3 rows 3 width 4 limit 9 wear 9;pad at 0 0;load at 2 2 draws 99;load at 1 1 draws 97;\
            strap at 1 1 east width 3;strap at 0 1 south width 1;strap at 2 1 south width 3;strap at 1 0 east width 1;
            drop 8 = 160136 2437
            drop 4 = 318746 7311
            """);
    }

    private void through() {
        edge(12, "the other way: below 0, above 0 below", """
            tell BROKEN
            through 2 = -3 1
            text 3: grid columns 2 rows 2 width 1 limit 1 wear 1;pad at 0 0;load at 1 0 draws 1;
            through 0 = 3 4
            through 2 = -1 4
            """);
        edge(12, "both are DEAD: 0 by 1", """
            tell DEAD
            through 0 = 0 1
            """);
        edge(12, "it is not there: 0 by 1, though DROPS differ", """
            tell WAYS
            lay 2 0 = 1
            drop 1 = 0 1
            drop 3 = 12 1
            through 2 = 0 1
            lay 0 0 = 1
            through 0 = 0 1
            """);
        edge(12, "between PADS, and where nothing is drawn: 0 by 1", """
            tell LINE
            feeds 1 = 2
            through 0 = 0 1
            through 1 = 6 1
            draw 2 0 = 6
            through 1 = 0 1
            """);
        edge(12, "no such STRAP, no such what", """
            tell LINE
            through {-1 2 12 MIN MAX} {0 1} = LMIN
            through 0 {-1 2 MIN MAX} = LMIN
            tell SINGLE
            through 0 0 = LMIN
            """);
    }

    private void givesAndChief() {
        edge(13, "its own LOAD alone, nothing at all", """
            tell SINGLE
            gives 0 = 7 1 -2
            draw 0 0 = 7
            gives 0 = 0 1 -2
            """);
        edge(13, "by STRAPS of both sides, and its own LOAD", """
            text 5: grid columns 3 rows 1 width 1 limit 9 wear 9;pad at 1 0;load at 0 0 draws 2;load at 1 0 draws 3;load at 2 0 draws 5;
            gives 1 = 10 1
            """);
        edge(13, "a fraction", """
            text 4: grid columns 4 rows 1 width 1 limit 9 wear 9;pad at 0 0;pad at 3 0;load at 1 0 draws 1;
            gives 0 = 2 3 -2
            gives 3 = 1 3 -2
            """);
        edge(13, "it is no PAD, it is DEAD: NONE", """
            tell BROKEN
            gives {1 2 4} {0 1} = -1
            gives 1 2 = -2
            """);
        edge(13, "no such NODE, no such what", """
            tell LINE
            gives {-1 3 MIN MAX} {0 1} = -2
            gives 0 {-1 2 MIN MAX} = -2
            """);
        edge(14, "the least of several", """
            text 4: grid columns 3 rows 1 width 1 limit 9 wear 9;pad at 0 0;pad at 2 0;load at 1 0 draws 5;
            chief = 0
            draw 2 1 = 0
            chief = 2
            draw 0 1 = 0
            chief = 0
            """);
        edge(14, "all give nothing", """
            tell BARE
            feeds 7 = 1
            feeds 5 = 2
            chief = 5
            """);
        edge(14, "there are none", """
            tell DEAD
            chief = -1
            feeds 1 = 1
            chief = 1
            """);
        edge(14, "there is no GRID", """
            chief = -2
            """);
    }

    private void areaAndWorst() {
        edge(15, "none at all, all 4 wide", """
            tell SINGLE
            area = 0
            tell BARE
            area = 0
            lay 3 4 = 0
            area = 4
            text 1: grid columns 3 rows 3 width 4 limit 9 wear 9;
            area = 48
            """);
        edge(15, "there is no GRID", """
            area = -2
            tell LINE
            grid = 0
            area = -2
            """);
        edge(16, "the least of several", """
            tell SQUARE
            draw 3 0 = 4
            drop 1 = 4 1
            drop 2 = 4 1
            drop 3 = 4 1
            worst = 1
            draw 2 5 = 4
            worst = 2
            """);
        edge(16, "no DROP: the least that is not DEAD", """
            tell LINE
            draw 2 0 = 6
            worst = 0
            tell BARE
            feeds 8 = 1
            feeds 5 = 2
            worst = 5
            """);
        edge(16, "all are DEAD", """
            tell DEAD
            worst = -1
            tell BARE
            worst = -1
            """);
        edge(16, "there is no GRID", """
            worst = -2
            """);
    }

    private void overAndHolds() {
        edge(17, "at LIMIT it is not above, a little more is", """
            text 3: grid columns 2 rows 1 width 3 limit 1 wear 9;pad at 0 0;load at 1 0 draws 3;
            over = 0
            draw 1 4 = 3
            over = 2
            draw 1 2 = 4
            over = 0
            """);
        edge(17, "LIMIT 0: each DROP is above", """
            text 3: grid columns 3 rows 1 width 4 limit 0 wear 9;pad at 0 0;load at 1 0 draws 1;
            over = 6
            draw 1 0 = 1
            over = 0
            """);
        edge(17, "LIMIT 999", """
            text 4: grid columns 9 rows 1 width 1 limit 999 wear 9;pad at 0 0;load at 8 0 draws 99;load at 7 0 draws 29;
            drop 8 = 995 1
            over = 0
            draw 6 1 = 0
            over = 256
            drop 8 = 1001 1
            """);
        edge(17, "DEAD ones are none, whatever they draw", """
            tell DEAD
            over = 0
            tell BROKEN
            over = 0
            """);
        edge(17, "NODE 0, too", """
            tell FIRST
            over = 1
            draw 0 2 = 3
            over = 0
            """);
        edge(17, "there is no GRID", """
            over = -2
            """);
        edge(18, "at LIMIT it holds, a little above it does not", """
            text 3: grid columns 2 rows 1 width 3 limit 1 wear 9;pad at 0 0;load at 1 0 draws 3;
            holds = 1
            draw 1 4 = 3
            holds = 0
            """);
        edge(18, "a DEAD NODE with a LOAD, without one", """
            tell BROKEN
            holds = 0
            draw 4 0 = 5
            holds = 1
            draw 4 1 = 0
            holds = 0
            tell BARE
            holds = 1
            """);
        edge(18, "there is no GRID", """
            holds = -2
            """);
    }

    private void loss() {
        edge(19, "those that are not DEAD alone", """
            tell BROKEN
            loss = 45 2 -2
            draw 4 99 = 5
            loss = 45 2 -2
            tell DEAD
            loss = 0 1 -2
            """);
        edge(19, "PADS lose nothing", """
            tell SINGLE
            loss = 0 1 -2
            tell LINE
            draw 0 99 = 0
            loss = 36 1
            """);
        edge(19, "NODE 0, too", """
            tell FIRST
            loss = 9 1 -2
            """);
        edge(19, "no such what, no GRID", """
            loss {-1 0 1 2} = -2
            tell LINE
            loss {-1 2 MIN MAX} = -2
            """);
    }

    private void moves() {
        edge(20, "by itself; LOADS do nothing to it", """
            tell SQUARE
            moves 1 1 = 3 4 -2
            moves 3 3 = 1 1 -2
            draw 1 0 = 4
            moves 1 1 = 3 4 -2
            """);
        edge(20, "a PAD: 0 by 1, either way", """
            tell SQUARE
            moves 0 0 = 0 1 -2
            moves 0 3 = 0 1 -2
            moves 3 0 = 0 1 -2
            """);
        edge(20, "parts apart: 0 by 1", """
            tell BROKEN
            moves 1 2 = 0 1 -2
            moves 2 1 = 0 1 -2
            """);
        edge(20, "one is DEAD, both are", """
            tell BROKEN
            moves 4 1 = -1 -1 -2
            moves 1 4 = -1 -1 -2
            moves 4 4 = -1 -1 -2
            moves 4 0 = -1 -1 -2
            """);
        edge(20, "no such NODES, no such what", """
            tell LINE
            moves {-1 3 MIN MAX} 0 {0 1} = -2
            moves 0 {-1 3 MIN MAX} {0 1} = -2
            moves 1 1 {-1 2 MIN MAX} = -2
            tell DEAD
            moves 2 0 0 = -2
            moves 0 2 0 = -2
            """);
    }

    private void resists() {
        edge(21, "itself: 0 by 1, DEAD or not", """
            tell BROKEN
            resists 0 0 = 0 1 -2
            resists 2 2 = 0 1 -2
            resists 4 4 = 0 1 -2
            """);
        edge(21, "either NODE first, more than 0", """
            tell SQUARE
            resists 0 1 = 3 4 -2
            resists 1 0 = 3 4 -2
            resists 0 3 = 1 1 -2
            resists 3 0 = 1 1 -2
            """);
        edge(21, "by STRAPS alone: no PADS, no LOADS", """
            tell LINE
            resists 0 2 = 1 1
            feeds 1 = 2
            feeds 2 = 3
            draw 1 50 = 0
            resists 0 2 = 1 1
            feeds {0 1 2}
            count 9 = 7
            resists 0 2 = 1 1
            """);
        edge(21, "they do not come to one another", """
            tell BROKEN
            resists 1 2 = -1 -1 -2
            resists 2 1 = -1 -1 -2
            resists 3 4 = -1 -1 -2
            """);
        edge(21, "no such NODES, no such what", """
            tell LINE
            resists {-1 3 MIN MAX} 0 {0 1} = -2
            resists 0 {-1 3 MIN MAX} {0 1} = -2
            resists 3 3 {0 1} = -2
            resists 0 1 {-1 2 MIN MAX} = -2
            """);
    }
}
