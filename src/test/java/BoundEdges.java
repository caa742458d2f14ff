/** Boundary cases of promises 22 to 30: what LOADS can do within bounds (Terms III), where a DROP is from, parts. */
final class BoundEdges extends Edges {
    @Override
    void addAll() {
        most();
        drawn();
        foeAndUnsafe();
        tight();
        share();
        feeder();
        partsAndReached();
    }

    private void most() {
        edge(22, "no budget: all that they draw", """
            tell LINE
            most 2 = 6 1 -2
            most 1 = 3 1 -2
            tell WAYS
            draw 1 99 = 0
            most 3 = 111 2 -2
            """);
        edge(22, "a budget of all of 0: 0 by 1", """
            text 4: grid columns 2 rows 1 width 1 limit 9 wear 9;pad at 0 0;load at 1 0 draws 5 group 1;budget 0 is 0;
            most 1 = 0 1 -2
            """);
        edge(22, "a GROUP's budget of 0: 0 by 1", """
            text 4: grid columns 2 rows 1 width 1 limit 9 wear 9;pad at 0 0;load at 1 0 draws 5 group 1;budget 1 is 0;
            most 1 = 0 1 -2
            """);
        edge(22, "another GROUP's budget does nothing, nor does one to a NODE without a GROUP", """
            text 5: grid columns 2 rows 1 width 1 limit 9 wear 9;pad at 0 0;load at 1 0 draws 5 group 1;budget 2 is 0;budget 3 is 0;
            most 1 = 5 1 -2
            text 6: grid columns 2 rows 1 width 1 limit 9 wear 9;pad at 0 0;load at 1 0 draws 5;budget 1 is 0;budget 2 is 0;budget 3 is 0;
            most 1 = 5 1 -2
            """);
        edge(22, "a budget of one less than they draw, of as much, of one more", """
            text 4: grid columns 2 rows 1 width 1 limit 9 wear 9;pad at 0 0;load at 1 0 draws 5 group 1;budget 1 is 4;
            most 1 = 4 1
            draw 1 4 = 5
            most 1 = 4 1
            draw 1 3 = 4
            most 1 = 3 1
            """);
        edge(22, "budgets of GROUPS and of all together", """
            tell GROUPS
            most 3 = 20 1 -2
            most 2 = 17 1 -2
            most 1 = 9 1 -2
            most 0 = 0 1 -2
            """);
        edge(22, "what is greatest first: far ones draw ahead of near ones", """
            text 5: grid columns 3 rows 1 width 1 limit 9 wear 9;pad at 0 0;load at 1 0 draws 5;load at 2 0 draws 5;budget 0 is 6;
            most 2 = 11 1
            most 1 = 6 1
            """);
        edge(22, "DEAD ones draw nothing of a budget", """
            text 6: grid columns 3 rows 1 width 1 limit 9 wear 9;strap at 1 0 east width 0;pad at 0 0;load at 1 0 draws 5;load at 2 0 draws 9;budget 0 is 5;
            most 1 = 5 1
            """);
        edge(22, "DEAD: NONE", """
            tell BROKEN
            most 4 = -1 -1 -2
            tell DEAD
            most {0 1} {0 1} = -1
            """);
        edge(22, "no such NODE, no such what", """
            tell LINE
            most {-1 3 MIN MAX} {0 1} = -2
            most 0 {-1 2 MIN MAX} = -2
            """);
    }

    private void drawn() {
        edge(23, "of equal ones the least NODE first", """
            tell SQUARE
            drawn 3 = 0 4 0 4
            draw 3 5 = 4
            drawn 3 = 0 3 0 5
            draw 3 3 = 5
            drawn 3 = 0 4 1 3
            """);
        edge(23, "those that do nothing to it draw last, what is left", """
            tell GROUPS
            drawn 3 = 0 1 5 3
            drawn 0 = 9 0 0 0
            draw 3 1 = 5
            drawn 3 = 1 2 5 1
            tell BROKEN
            drawn 1 = 0 6 3 0 0
            drawn 2 = 0 6 3 0 0
            """);
        edge(23, "as much as it may with those ahead: GROUP, all", """
            tell GROUPS
            drawn 1 = 0 5 2 2
            drawn 2 = 0 1 5 3
            """);
        edge(23, "another that is DEAD: 0, and nothing of a budget", """
            text 6: grid columns 3 rows 1 width 1 limit 9 wear 9;strap at 1 0 east width 0;pad at 0 0;load at 1 0 draws 5;load at 2 0 draws 9;budget 0 is 6;
            drawn 1 = 0 5 0
            drawn 0 = 0 5 0
            tight 1 = 0
            """);
        edge(23, "another that is DEAD by now", """
            tell GROUPS
            drawn 1 = 0 5 2 2
            lay 2 0 = 1
            drawn 1 = 2 5 2 0
            lay 1 0 = 1
            drawn 1 = 4 5 0 0
            """);
        edge(23, "the first is DEAD", """
            tell BROKEN
            drawn 4 {0 1 2 3 4} = -1
            tell DEAD
            drawn {0 1} {0 1} = -1
            """);
        edge(23, "no such NODES", """
            tell LINE
            drawn {-1 3 MIN MAX} 0 = -2
            drawn 0 {-1 3 MIN MAX} = -2
            tell DEAD
            drawn 0 2 = -2
            """);
    }

    private void foeAndUnsafe() {
        edge(24, "the least of several", """
            tell WAYS
            draw 3 0 = 6
            draw 1 4 = 0
            draw 2 4 = 0
            most 1 = 4 1
            most 2 = 4 1
            most 3 = 4 1
            foe = 1
            draw 2 5 = 4
            foe = 2
            """);
        edge(24, "nothing can be drawn: the least that is not DEAD", """
            tell LINE
            draw 2 0 = 6
            foe = 0
            tell BARE
            feeds 8 = 1
            feeds 5 = 2
            foe = 5
            """);
        edge(24, "budgets make another one the worst", """
            text 5: grid columns 3 rows 1 width 1 limit 9 wear 9;pad at 1 0;load at 0 0 draws 9 group 1;load at 2 0 draws 5;budget 1 is 4;
            worst = 0
            foe = 2
            """);
        edge(24, "all are DEAD", """
            tell DEAD
            foe = -1
            tell BARE
            foe = -1
            """);
        edge(24, "there is no GRID", """
            foe = -2
            """);
        edge(25, "at LIMIT it is not above, a little more is", """
            tell LINE
            draw 2 10 = 6
            unsafe = 0
            draw 2 11 = 10
            unsafe = 4
            text 3: grid columns 2 rows 1 width 3 limit 1 wear 9;pad at 0 0;load at 1 0 draws 3;
            unsafe = 0
            draw 1 4 = 3
            unsafe = 2
            """);
        edge(25, "a budget keeps it safe, though its DROP is above", """
            text 4: grid columns 2 rows 1 width 1 limit 4 wear 9;pad at 0 0;load at 1 0 draws 5;budget 0 is 4;
            over = 2
            unsafe = 0
            """);
        edge(25, "LIMIT 0", """
            text 3: grid columns 3 rows 1 width 4 limit 0 wear 9;pad at 0 0;load at 1 0 draws 1;
            unsafe = 6
            """);
        edge(25, "NODE 0, too", """
            tell FIRST
            unsafe = 1
            draw 0 2 = 3
            unsafe = 0
            """);
        edge(25, "DEAD ones are none", """
            tell DEAD
            unsafe = 0
            tell BROKEN
            unsafe = 0
            """);
        edge(25, "there is no GRID", """
            unsafe = -2
            """);
    }

    private void tight() {
        edge(26, "nothing is left, one is left", """
            text 5: grid columns 2 rows 1 width 1 limit 9 wear 9;pad at 0 0;load at 1 0 draws 5 group 2;budget 2 is 5;budget 0 is 6;
            tight 1 = 4
            draw 0 1 = 0
            tight 1 = 5
            draw 1 4 = 5
            tight 1 = 0
            draw 1 99 = 4
            tight 1 = 5
            """);
        edge(26, "bit 0 that of all", """
            text 5: grid columns 2 rows 1 width 1 limit 9 wear 9;pad at 0 0;load at 1 0 draws 5 group 3;budget 3 is 6;budget 0 is 5;
            tight 1 = 1
            """);
        edge(26, "a budget of 0 has nothing left", """
            text 4: grid columns 1 rows 1 width 1 limit 9 wear 9;pad at 0 0;budget 3 is 0;budget 1 is 0;
            tight 0 = 10
            text 3: grid columns 1 rows 1 width 1 limit 9 wear 9;pad at 0 0;budget 0 is 0;
            tight 0 = 1
            """);
        edge(26, "no budget is told: none is used up", """
            text 11: grid columns 9 rows 1 width 1 limit 9 wear 9;pad at 0 0;load at 0 0 draws 99;load at 1 0 draws 99;load at 2 0 draws 99;load at 3 0 draws 99;\
            load at 4 0 draws 99;load at 5 0 draws 99;load at 6 0 draws 99;load at 7 0 draws 99;load at 8 0 draws 99;
            tight 8 = 0
            drawn 8 0 = 99
            most 8 0 = 3564
            """);
        edge(26, "it is DEAD", """
            tell BROKEN
            tight 4 = -1
            tell DEAD
            tight {0 1} = -1
            """);
        edge(26, "no such NODE", """
            tell LINE
            tight {-1 3 9 MIN MAX} = -2
            """);
    }

    private void share() {
        edge(27, "all of it, none of it, some of it", """
            tell LINE
            share 2 2 = 1 1 -2
            share 1 2 = 1 1 -2
            share 2 1 = 0 1 -2
            share 2 0 = 0 1 -2
            tell SQUARE
            share 1 1 = 1 2 -2
            share 1 2 = 1 6 -2
            share 1 3 = 1 3 -2
            share 3 1 = 1 4 -2
            """);
        edge(27, "a DROP of 1, a LOAD of 1", """
            text 3: grid columns 2 rows 1 width 1 limit 5 wear 5; pad at 0 0; load at 1 0 draws 1;
            drop 1 = 1 1
            share 1 1 = 1 1 -2
            """);
        edge(27, "NODE 0, too", """
            tell FIRST
            share 0 0 = 1 1 -2
            share 0 1 = 0 1 -2
            """);
        edge(27, "without any DROP: 0 by 1", """
            tell SINGLE
            share 0 0 = 0 1 -2
            tell LINE
            share 0 2 = 0 1 -2
            draw 2 0 = 6
            share 2 2 = 0 1 -2
            """);
        edge(27, "parts apart: 0 by 1", """
            tell BROKEN
            share 1 2 = 0 1 -2
            share 2 1 = 0 1 -2
            """);
        edge(27, "one is DEAD, both are", """
            tell BROKEN
            share 4 1 = -1 -1 -2
            share 1 4 = -1 -1 -2
            share 4 4 = -1 -1 -2
            share 0 4 = -1 -1 -2
            """);
        edge(27, "no such NODES, no such what", """
            tell LINE
            share {-1 3 MIN MAX} 0 {0 1} = -2
            share 0 {-1 3 MIN MAX} {0 1} = -2
            share 2 2 {-1 2 MIN MAX} = -2
            tell DEAD
            share 2 0 0 = -2
            share 0 2 0 = -2
            """);
    }

    private void feeder() {
        edge(28, "0: itself, a PAD, a DEAD one", """
            tell BROKEN
            feeder 0 = 0 -1 -1
            feeder 3 = 3 -1 -1
            feeder 4 = 4 -1 -1
            tell BARE
            feeder 8 = 8 -1
            """);
        edge(28, "nothing comes to it", """
            tell LINE
            draw 2 0 = 6
            feeder 2 = 2 -1
            draw 1 4 = 0
            feeder 2 = 2 -1
            feeder 1 = 1 0 -1
            """);
        edge(28, "of several the first STRAP", """
            tell WAYS
            feeder 3 = 3 1 0 -1
            text 3: grid columns 2 rows 2 width 1 limit 12 wear 9;pad at 1 1;load at 0 0 draws 6;
            feeder 0 = 0 1 3 -1
            """);
        edge(28, "through which most comes, not along which it drops most", """
            tell WAYS
            lay 3 4 = 1
            heat 2 = 30 13
            heat 3 = 12 13
            feeder 3 = 3 2 0 -1
            """);
        edge(28, "till at a PAD", """
            tell LINE
            feeds 1 = 2
            feeder 2 = 2 1 -1
            feeder 1 = 1 -1
            """);
        edge(28, "the longest way", """
            text 3: grid columns 9 rows 1 width 1 limit 12 wear 9;pad at 0 0;load at 8 0 draws 1;
            feeder 8 = 8 7 6 5 4 3 2 1 0 -1 -1
            feeder 8 MAX = -1
            text 3: grid columns 1 rows 9 width 1 limit 12 wear 9;pad at 0 8;load at 0 0 draws 1;
            feeder 0 = 0 1 2 3 4 5 6 7 8 -1 -1
            """);
        edge(28, "i below 0, no such NODE", """
            tell LINE
            feeder 2 {-1 MIN} = -2
            feeder {-1 3 MIN MAX} 0 = -2
            feeder 2 MAX = -1
            """);
    }

    private void partsAndReached() {
        edge(29, "one NODE, one part, each NODE its own", """
            tell SINGLE
            parts = 1
            tell CROSS
            parts = 1
            tell BARE
            parts = 9
            lay 0 1 = 0
            parts = 8
            """);
        edge(29, "PADS and LOADS do nothing to it", """
            tell BROKEN
            parts = 3
            feeds 0 = 1
            draw 4 0 = 5
            parts = 3
            """);
        edge(29, "there is no GRID", """
            parts = -2
            """);
        edge(30, "itself alone, all, DEAD or not", """
            tell SINGLE
            reached 0 = 1
            tell BARE
            reached 0 = 1
            reached 8 = 256
            tell CROSS
            reached {0 4 8} = 511
            tell DEAD
            reached {0 1} = 3
            """);
        edge(30, "the whole way round", """
            text 1: grid columns 3 rows 3 width 0 limit 12 wear 9;
            lay {11 9 4 2 0 1 6} 1 = 0
            reached 7 = 495
            reached 6 = 495
            reached 4 = 16
            """);
        edge(30, "no such NODE", """
            tell LINE
            reached {-1 3 9 MIN MAX} = -2
            """);
    }
}
