/** Boundary cases of promises 31 to 37: HEAT and YEARS (Terms IV). */
final class YearEdges extends Edges {
    @Override
    void addAll() {
        heat();
        hottestAndWearing();
        aged();
        lasts();
        wornAndCalms();
    }

    private void heat() {
        edge(31, "in size, by its width", """
            tell LINE
            heat 0 = 3 1 -2
            tell BROKEN
            through 2 = -3 1
            heat 2 = 3 2 -2
            """);
        edge(31, "it is not there: 0 by 1, though DROPS differ", """
            tell WAYS
            lay 2 0 = 1
            drop 3 = 12 1
            heat 2 = 0 1 -2
            """);
        edge(31, "nothing goes through it, it is DEAD: 0 by 1", """
            tell LINE
            draw 2 0 = 6
            heat 0 = 0 1 -2
            tell DEAD
            heat 0 = 0 1 -2
            """);
        edge(31, "no such STRAP, no such what", """
            tell LINE
            heat {-1 2 12 MIN MAX} {0 1} = -2
            heat 0 {-1 2 MIN MAX} = -2
            tell SINGLE
            heat 0 0 = -2
            """);
    }

    private void hottestAndWearing() {
        edge(32, "the first of several", """
            tell LINE
            hottest = 0
            tell BROKEN
            hottest = 0
            draw 1 3 = 6
            hottest = 0
            draw 1 2 = 3
            hottest = 2
            """);
        edge(32, "of the greatest HEAT, not of what goes through", """
            tell LINE
            draw 1 1 = 0
            lay 0 4 = 2
            through 0 0 = 7
            through 1 0 = 6
            hottest = 1
            """);
        edge(32, "a little HEAT is some", """
            text 3: grid columns 2 rows 1 width 1 limit 5 wear 5; pad at 0 0; load at 1 0 draws 1;
            hottest = 0
            lay 0 4 = 1
            heat 0 = 1 4
            hottest = 0
            """);
        edge(32, "none has any", """
            tell LINE
            draw 2 0 = 6
            hottest = -1
            tell DEAD
            hottest = -1
            tell SINGLE
            hottest = -1
            tell BARE
            hottest = -1
            """);
        edge(32, "there is no GRID", """
            hottest = -2
            """);
        edge(33, "at WEAR it does not wear, a little above it does", """
            tell WEARS
            wearing = 1
            draw 1 4 = 5
            heat 0 = 1 1
            wearing = 0
            tell LINE
            draw 2 10 = 6
            wearing = 0
            draw 2 11 = 10
            wearing = 3
            """);
        edge(33, "in size: those that go the other way, too", """
            tell BROKEN
            draw 2 5 = 3
            through 2 0 = -5
            wearing = 5
            """);
        edge(33, "those that are not there do not wear", """
            tell WAYS
            draw 3 99 = 6
            lay 2 0 = 1
            wearing = 10
            """);
        edge(33, "none, all twelve", """
            tell BARE
            wearing = 0
            text 6: grid columns 3 rows 3 width 1 limit 20 wear 1; pad at 1 1; load at 0 0 draws 12; load at 2 0 draws 12;\
            load at 0 2 draws 12; load at 2 2 draws 12;
            wearing = 4095
            """);
        edge(33, "there is no GRID", """
            wearing = -2
            """);
    }

    private void aged() {
        edge(34, "n 0 .. 100", """
            tell WEARS
            aged 0 0 = 4
            aged 1 0 = 3
            aged 2 0 = 2
            aged 3 0 = 1
            aged 4 0 = 0
            aged 5 0 = 0
            aged 100 0 = 0
            aged {-1 101 MIN MAX} 0 = -2
            """);
        edge(34, "all at once, those that do not wear stay", """
            tell LINE
            draw 2 20 = 6
            aged 1 {0 1} = 1
            aged 2 {0 1} = 0
            tell BROKEN
            aged 1 = 1 0 2 0
            aged 100 = 0 0 2 0
            """);
        edge(34, "by what goes through then, not at first", """
            text 5: grid columns 2 rows 2 width 1 limit 99 wear 4;pad at 0 0;load at 1 0 draws 4;load at 1 1 draws 3;strap at 0 0 east width 4;
            wearing = 0
            lay 0 1 = 4
            wearing = 1
            aged 1 = 0 1 1 1
            aged 2 = 0 0 1 0
            aged 3 = 0 0 1 0
            """);
        edge(34, "no such STRAP", """
            tell LINE
            aged 0 {-1 2 12 MIN MAX} = -2
            aged 100 2 = -2
            tell SINGLE
            aged 0 0 = -2
            """);
        edge(34, "asking changes nothing", """
            tell WEARS
            kept aged 3 0 = 1
            strap 0 2 = 4
            count 5 = 0
            """);
        edge(34, "from acts on", """
            tell WEARS
            year = 1
            aged 0 0 = 3
            aged 1 0 = 2
            lay 0 1 = 3
            aged 1 0 = 0
            undo = 1
            aged 1 0 = 2
            """);
    }

    private void lasts() {
        edge(35, "0: now", """
            tell SQUARE
            lasts = 0
            tell DEAD
            lasts = 0
            """);
        edge(35, "never", """
            tell LINE
            lasts = -1
            tell BARE
            lasts = -1
            tell SINGLE
            lasts = -1
            """);
        edge(35, "at LIMIT it holds on, above it does not", """
            tell WEARS
            lasts = 2
            text 3: grid columns 2 rows 1 width 4 limit 5 wear 1; pad at 0 0; load at 1 0 draws 5;
            lasts = 4
            text 3: grid columns 2 rows 1 width 4 limit 4 wear 1; pad at 0 0; load at 1 0 draws 5;
            lasts = 3
            text 3: grid columns 2 rows 1 width 4 limit 1 wear 1; pad at 0 0; load at 1 0 draws 5;
            lasts = 0
            """);
        edge(35, "a STRAP is worn, and it still holds", """
            text 5: grid columns 2 rows 2 width 4 limit 99 wear 1;strap at 0 0 south width 1;pad at 0 0;pad at 1 0;load at 0 1 draws 4;
            lasts = -1
            calms = 1
            worn = -1 1 -1 -1
            """);
        edge(35, "a STRAP is worn, then the others", """
            text 4: grid columns 2 rows 2 width 1 limit 99 wear 1;pad at 0 0;pad at 1 0;load at 0 1 draws 3;
            wearing = 2
            lasts = 2
            draw 2 2 = 3
            wearing = 2
            lasts = 2
            draw 2 1 = 2
            wearing = 0
            lasts = -1
            """);
        edge(35, "there is no GRID", """
            lasts = -2
            """);
    }

    private void wornAndCalms() {
        edge(36, "0: now", """
            tell BROKEN
            worn 1 = 0
            worn 3 = 0
            tell BARE
            worn {0 11} = 0
            """);
        edge(36, "later, never", """
            tell WEARS
            worn 0 = 4
            lay 0 1 = 4
            worn 0 = 1
            draw 1 1 = 5
            worn 0 = -1
            tell BROKEN
            worn 0 = 2
            worn 2 = -1
            """);
        edge(36, "no such STRAP", """
            tell LINE
            worn {-1 2 12 MIN MAX} = -2
            tell SINGLE
            worn 0 = -2
            """);
        edge(37, "0: none wears now", """
            tell LINE
            calms = 0
            tell SINGLE
            calms = 0
            tell DEAD
            calms = 0
            """);
        edge(37, "as soon as none wears", """
            tell WEARS
            calms = 4
            draw 1 4 = 5
            calms = 0
            tell BROKEN
            calms = 2
            """);
        edge(37, "many YEARS, STRAP by STRAP", """
            text 24: grid columns 3 rows 3 width 1 limit 12 wear 13;strap at 0 0 east width 3;strap at 0 0 south width 3;strap at 1 0 east width 4;\
            strap at 1 0 south width 2;strap at 2 0 south width 4;strap at 0 1 east width 4;strap at 0 1 south width 4;strap at 1 1 east width 3;\
            strap at 1 1 south width 3;strap at 0 2 east width 2;strap at 1 2 east width 3;load at 0 0 draws 6;pad at 1 0;load at 1 0 draws 6;\
            load at 2 0 draws 32;load at 0 1 draws 23;load at 1 1 draws 33;load at 2 1 draws 31;pad at 0 2;load at 0 2 draws 24;pad at 1 2;\
            load at 1 2 draws 38;load at 2 2 draws 39;
            calms = 16
            worn = 16 16 7 9 -1 -1 13 10 10 4 -1 3 -2
            aged 8 = 3 3 0 1 4 4 4 2 2 0 2 0 -2
            aged 15 1 = 1
            aged 16 1 = 0
            """);
        edge(37, "there is no GRID", """
            calms = -2
            """);
    }
}
