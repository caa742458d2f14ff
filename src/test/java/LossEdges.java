/** Boundary cases of promises 49 to 57: STRAPS lost, other LOADS. */
final class LossEdges extends Edges {
    /** A STRAP 1 wide: the DROP is what is drawn, 0 to 99. */
    private static final String DUO = "text 3: grid columns 2 rows 1 width 1 limit 50 wear 9;pad at 0 0;load at 1 0 draws 99;\n";

    @Override
    void addAll() {
        without();
        lost();
        vital();
        spare();
        pairs();
        pair();
        chance();
        luck();
        room();
    }

    private void without() {
        edge(49, "none but PADS are left: 0 by 1", """
            tell LINE
            without 0 = 0 1 -2
            without 1 = 0 1 -2
            tell DEAD
            without 0 = 0 1 -2
            """);
        edge(49, "it is not there anyway: as it is", """
            tell BROKEN
            without 1 = 3 1 -2
            without 3 = 3 1 -2
            without 0 = 3 2 -2
            """);
        edge(49, "the whole STRAP, however wide", """
            tell WAYS
            lay 0 4 = 1
            without 0 = 12 1
            without 1 = 15 2
            """);
        edge(49, "no such STRAP, no such what", """
            tell LINE
            without {-1 2 12 MIN MAX} {0 1} = -2
            without 0 {-1 2 MIN MAX} = -2
            tell SINGLE
            without 0 0 = -2
            """);
        edge(49, "asking changes nothing", """
            tell LINE
            kept without 0 0 = 0
            strap 0 2 = 2
            """);
    }

    private void lost() {
        edge(50, "none, some, those that are DEAD anyway, too", """
            tell WAYS
            lost {0 1 2 3} = 0
            tell LINE
            lost 0 = 6
            lost 1 = 4
            tell BROKEN
            lost = 18 16 20 16
            tell DEAD
            lost 0 = 3
            tell BARE
            lost {0 11} = 511
            """);
        edge(50, "no such STRAP", """
            tell LINE
            lost {-1 2 12 MIN MAX} = -2
            tell SINGLE
            lost 0 = -2
            """);
        edge(50, "asking changes nothing", """
            tell LINE
            kept lost 0 = 6
            count 9 = 0
            """);
    }

    private void vital() {
        edge(51, "DEAD ones first, then the DROP", """
            tell BROKEN
            without 0 0 = 3
            without 2 0 = 3
            without 2 1 = 1
            vital = 2
            draw 4 0 = 5
            draw 3 1 = 0
            vital = 2
            draw 2 0 = 3
            vital = 0
            """);
        edge(51, "the first of several", """
            tell WAYS
            vital = 0
            tell LINE
            vital = 0
            draw 2 0 = 6
            vital = 0
            """);
        edge(51, "those that are there alone", """
            tell LINE
            lay 0 0 = 2
            vital = 1
            tell BROKEN
            lay 0 0 = 2
            vital = 2
            """);
        edge(51, "there is none", """
            tell SINGLE
            vital = -1
            tell BARE
            vital = -1
            lay 11 1 = 0
            vital = 11
            """);
        edge(51, "there is no GRID", """
            vital = -2
            """);
    }

    private void spare() {
        edge(52, "at LIMIT it holds, above it does not", """
            tell WAYS
            spare = 15
            draw 3 7 = 6
            spare = 0
            """);
        edge(52, "those that are not there are none", """
            tell LINE
            draw 2 0 = 6
            spare = 3
            lay 0 0 = 2
            spare = 2
            tell BARE
            spare = 0
            """);
        edge(52, "it does not hold: none", """
            tell SQUARE
            spare = 0
            tell BROKEN
            spare = 0
            draw 4 0 = 5
            holds = 1
            spare = 0
            """);
        edge(52, "all twelve", """
            text 2: grid columns 3 rows 3 width 1 limit 0 wear 1;pad at 0 0;
            spare = 4095
            """);
        edge(52, "there is no GRID", """
            spare = -2
            """);
    }

    private void pairs() {
        edge(53, "without both it does not hold, without either alone it does", """
            tell WAYS
            pairs = 4
            """);
        edge(53, "none, if it does not hold without one alone", """
            tell WAYS
            draw 3 7 = 6
            pairs = 0
            tell LINE
            pairs = 0
            """);
        edge(53, "none, if it holds without both", """
            tell WAYS
            draw 3 0 = 6
            spare = 15
            pairs = 0
            """);
        edge(53, "those that are there alone", """
            text 3: grid columns 3 rows 2 width 1 limit 99 wear 9;pad at 0 0;load at 1 0 draws 1;
            pairs = 2
            lay 2 0 = 1
            pairs = 3
            lay 4 0 = 1
            pairs = 3
            lay 0 0 = 1
            pairs = 0
            """);
        edge(53, "no STRAPS, one STRAP", """
            tell SINGLE
            pairs = 0
            tell DEAD
            draw 1 0 = 3
            pairs = 0
            """);
        edge(53, "there is no GRID", """
            pairs = -2
            """);
    }

    private void pair() {
        edge(54, "100 times the lesser STRAP, and the other one, by these numbers", """
            tell WAYS
            pair = 1 3 102 203 -1 -1
            """);
        edge(54, "STRAPS of two digits", """
            text 1: grid columns 3 rows 3 width 0 limit 99 wear 9;
            lay {8 9 10 11} 1 = 0
            feeds 4 = 1
            draw 7 1 = 0
            pairs = 0
            lay 7 1 = 0
            pair = 708 809 811 -1
            feeds 5 = 2
            lay 8 0 = 1
            feeds 6 = 3
            pairs = 2
            pair = 910 1011 -1
            """);
        edge(54, "many of them", """
            text 17: grid columns 3 rows 3 width 1 limit 165 wear 9;strap at 0 0 east width 2;strap at 0 0 south width 2;strap at 1 0 east width 2;\
            strap at 0 1 east width 2;strap at 1 1 east width 2;strap at 0 2 east width 3;strap at 1 2 east width 2;load at 0 0 draws 4;pad at 1 0;\
            load at 1 0 draws 39;load at 2 0 draws 2;load at 1 1 draws 17;load at 2 1 draws 50;load at 0 2 draws 39;load at 1 2 draws 45;load at 2 2 draws 38;
            pairs = 53
            pair {53 65 66} = -1
            """);
        edge(54, "there are not so many", """
            tell LINE
            pair {0 1 65 66 MAX} = -1
            tell WAYS
            pair {4 65 66 MAX} = -1
            """);
        edge(54, "i below 0", """
            tell WAYS
            pair {-1 MIN} = -2
            """);
        edge(54, "there is no GRID", """
            pair {-1 0} = -2
            """);
    }

    private void chance() {
        edge(55, "n 1 .. 100", DUO + """
            chance 7 1 = 1
            chance 7 99 = 46
            chance 7 100 = 47
            chance 7 {-1 0 101 MIN MAX} = -2
            """);
        edge(55, "the seed 0 ..", DUO + """
            chance 0 100 = 43
            chance MAX 100 = 58
            chance {-1 MIN} 1 = -2
            chance -1 0 = -2
            """);
        edge(55, "a DEAD NODE that draws 0 then is without a LOAD", """
            tell DEAD
            chance 0 1 = 1
            chance 0 5 = 1
            chance 0 6 = 2
            chance 1 6 = 0
            """);
        edge(55, "a LOAD of 1: 0 or 1", """
            text 3: grid columns 2 rows 1 width 1 limit 0 wear 9;pad at 0 0;load at 1 0 draws 1;
            chance 0 8 = 4
            chance MAX 8 = 5
            luck 0 1 = 0 1
            luck 0 2 = 1 1
            """);
        edge(55, "no LOADS, PADS alone: always", """
            tell BARE
            chance 3 100 = 100
            tell SINGLE
            chance 3 1 = 1
            chance 3 100 = 100
            """);
        edge(55, "the same each time, and it changes nothing", DUO + """
            kept chance 7 100 = 47
            chance 7 100 = 47
            node 1 1 = 99
            """);
        edge(55, "there is no GRID", """
            chance 0 1 = -2
            chance -1 0 = -2
            """);
    }

    private void luck() {
        edge(56, "a DRAW: modulo 2 to the 31, cut", DUO + """
            luck 0 1 = 68 1 -2
            luck 1 1 = 58 1 -2
            luck MAX 1 = 9 1 -2
            luck MAX 100 = 99 1 -2
            luck 7 100 = 98 1 -2
            luck 0 100 = 97 1 -2
            """);
        edge(56, "each NODE takes a DRAW, without a LOAD, a PAD, DEAD", """
            text 4: grid columns 3 rows 1 width 1 limit 9 wear 9;pad at 0 0;load at 0 0 draws 9;load at 2 0 draws 9;
            luck 5 1 = 12 1 -2
            text 4: grid columns 3 rows 1 width 1 limit 9 wear 9;pad at 1 0;load at 2 0 draws 9;strap at 0 0 east width 0;
            luck 5 1 = 6 1 -2
            """);
        edge(56, "the greatest of several, not the last", """
            text 3: grid columns 3 rows 1 width 1 limit 9 wear 9;pad at 0 0;load at 2 0 draws 9;
            luck 5 1 = 12 1
            luck 5 2 = 12 1
            luck 5 4 = 12 1
            """);
        edge(56, "a fraction", """
            text 3: grid columns 2 rows 1 width 3 limit 9 wear 9;pad at 0 0;load at 1 0 draws 99;
            luck 0 1 = 68 3 -2
            luck MAX 1 = 3 1 -2
            """);
        edge(56, "no DROP: 0 by 1", """
            tell DEAD
            luck 0 100 = 0 1 -2
            tell SINGLE
            luck 0 100 = 0 1 -2
            """);
        edge(56, "n, seed, what: none such", DUO + """
            luck 0 {-1 0 101 MIN MAX} {0 1} = -2
            luck {-1 MIN} 1 {0 1} = -2
            luck 0 1 {-1 2 MIN MAX} = -2
            """);
        edge(56, "there is no GRID", """
            luck 0 1 {0 1} = -2
            """);
    }

    private void room() {
        edge(57, "at LIMIT it holds", """
            tell LINE
            room = 99 8 10 -2
            text 2: grid columns 2 rows 1 width 1 limit 99 wear 9;pad at 0 0;
            room 1 = 99
            text 2: grid columns 2 rows 1 width 1 limit 98 wear 9;pad at 0 0;
            room 1 = 98
            text 2: grid columns 2 rows 1 width 3 limit 1 wear 9;pad at 0 0;
            room 1 = 3
            text 2: grid columns 2 rows 1 width 1 limit 1 wear 9;pad at 0 0;
            room 1 = 1
            """);
        for (int tens = 0; tens < 10; tens++) {
            StringBuilder script = new StringBuilder();
            for (int limit = 10 * tens; limit < 10 * tens + 10; limit++) {
                script.append("text 2: grid columns 2 rows 1 width 1 limit ").append(limit).append(" wear 9;pad at 0 0;\nroom 1 = ").append(limit).append('\n');
            }
            edge(57, "each n from " + 10 * tens + " on", script.toString());
        }
        edge(57, "0: LIMIT 0, DEAD", """
            text 2: grid columns 2 rows 1 width 1 limit 0 wear 9;pad at 0 0;
            room 1 = 0
            room 0 = 99
            tell DEAD
            room 1 = 0
            tell BARE
            room {0 8} = 0
            """);
        edge(57, "not even 0", """
            tell SQUARE
            room {0 1 2 3} = -1
            tell BROKEN
            room {0 1 2 3} = -1
            room 4 = 0
            tell DEAD
            room 0 = -1
            """);
        edge(57, "what it draws now is no matter", """
            tell LINE
            draw 2 99 = 6
            holds = 0
            room 2 = 10
            room 1 = -1
            """);
        edge(57, "no such NODE", """
            tell LINE
            room {-1 3 9 MIN MAX} = -2
            """);
        edge(57, "asking changes nothing", """
            tell LINE
            kept room 2 = 10
            node 2 1 = 6
            """);
    }
}
