/** Boundary cases of promises 1 to 5, and of the TEXT (Terms I). */
final class TapeEdges extends Edges {
    /** 45 bytes: two columns, two rows. */
    private static final String GOOD = "grid columns 2 rows 2 width 1 limit 3 wear 9;";

    @Override
    void addAll() {
        newObject();
        feed();
        feedPlaces();
        end();
        grid();
        gridLine();
        strapLine();
        padAndLoadLines();
        budgetLine();
        tokens();
        manyDigits();
        firstFault();
        fault();
    }

    private void told(int promise, String name, String script) {
        edge(promise, name, script.replace("GOOD", GOOD));
    }

    private void newObject() {
        told(1, "no GRID: what is asked of it", """
            count = 0 0 0 0 0 0 0 0 0 0 -1
            strap 0 {0 1 2} = -1
            between 0 0 = -2
            node 0 {0 1 2 3} = -1
            budget {0 1 2 3} = -1
            drop 0 {0 1} = -2
            through 0 {0 1} = LMIN
            gives 0 {0 1} = -2
            chief = -2
            area = -2
            worst = -2
            over = -2
            holds = -2
            loss {0 1} = -2
            moves 0 0 {0 1} = -2
            resists 0 0 {0 1} = -2
            most 0 {0 1} = -2
            drawn 0 0 = -2
            foe = -2
            unsafe = -2
            tight 0 = -2
            share 0 0 {0 1} = -2
            feeder 0 0 = -2
            parts = -2
            reached 0 = -2
            heat 0 {0 1} = -2
            hottest = -2
            wearing = -2
            aged 0 0 = -2
            lasts = -2
            worn 0 = -2
            calms = -2
            """);
        told(1, "no GRID: searches", """
            pad 0 = -2
            pads {0 1 9} = -2
            padded 0 {0 1} = -2
            enough = -2
            widens = -2
            widen 0 = -2
            wide = -2
            fewest = -2
            few 0 = -2
            slims = -2
            slim 0 = -2
            without 0 {0 1} = -2
            lost 0 = -2
            vital = -2
            spare = -2
            pairs = -2
            pair 0 = -2
            chance 0 1 = -2
            luck 0 1 {0 1} = -2
            room 0 = -2
            did {0 1 2 3} {0 1} = -2
            """);
        told(1, "no GRID: acts are refused and change nothing", """
            kept lay 0 1 = -2
            kept feeds 0 = -2
            kept draw 0 1 = -2
            kept year = -2
            kept undo = -2
            kept anew = -2
            """);
        told(1, "as good at its 512th call as at its first", """
            507x feed 0 0 0 0 0
            end 0 = 0
            count 7 = 0
            fault = 0 -1
            grid = 0
            """);
        told(1, "an empty TAPE, no FAULT, no IMAGE", """
            count 7 = 0
            fault = 0 -1
            end 0 = 0
            end 1 = -1
            back {0 1 2} = -6
            grid = 0
            holds = -2
            """);
    }

    private void feed() {
        told(2, "twenty bytes each time", """
            feed 0 0 0 0 0 = 20
            feed 1 2 3 4 5 = 40
            feed MIN MAX -1 0 1 = 60
            count 7 = 60
            """);
        told(2, "680 bytes take 20 more, 700 none", """
            tape 680
            feed 1 2 3 4 5 = 700
            count 7 = 700
            kept feed 1 2 3 4 5 = -1
            count 7 = 700
            """);
        told(2, "35 times from an empty TAPE, not 36 times", """
            34x feed 538976288 538976288 538976288 538976288 538976288
            feed 538976288 538976288 538976288 538976288 538976288 = 700
            feed 538976288 538976288 538976288 538976288 538976288 = -1
            grid = 0
            feed 538976288 538976288 538976288 538976288 538976288 = 20
            """);
        told(2, "681 bytes: it would have 701, none come", """
            tape 681
            kept feed 538976288 538976288 538976288 538976288 538976288 = -1
            count 7 = 681
            """);
        told(2, "699 bytes: it would have 719, none come", """
            tape 699
            kept feed 538976288 538976288 538976288 538976288 538976288 = -1
            """);
        told(2, "behind the TAPE: what is there stays ahead", """
            put: grid columns 2 rows 2
            put: <32>width 1 limit 3 wear 9;
            put: pad at 1 1;
            grid = 2
            count 8 = 8
            """);
        told(2, "behind what end() left", """
            put: grid columns 1 rows 1 nonsense
            end 19 = 19
            feed 538978080 538976288 538976288 538976288 538976288 = 39
            count 7 = 39
            end 20 = 20
            put: <32>1 width 0 limit 0 wear 1;
            grid = 1
            """);
        told(2, "a full TAPE is read to its last byte", "put: " + GOOD + " ".repeat(644) + "pad at 1 0;\ncount 7 = 700\ngrid = 2\ncount 8 = 2");
        told(2, "a full TAPE without an end of its last LINE", "put: " + GOOD + " ".repeat(645) + "pad at 1 0\ncount 7 = 700\ngrid = -4\nfault = 1 700");
        told(2, "the GRID stays while the TAPE is fed", """
            tell LINE
            feed 1 2 3 4 5 = 20
            count = 3 1 10 5 2 0 3 20 1 0
            fault = 0 -1
            """);
    }

    /** Four bytes of each number, the highest first: one strange byte at each of the twenty places. */
    private void feedPlaces() {
        for (int place = 0; place < 20; place++) {
            byte[] text = "                    ".getBytes(java.nio.charset.StandardCharsets.ISO_8859_1);
            text[place] = (byte) (place % 2 == 0 ? 65 : 250);
            int[] numbers = Scripts.numbersOf(text, 0);
            StringBuilder script = new StringBuilder("feed");
            for (int number : numbers) {
                script.append(' ').append(number);
            }
            told(2, "the byte at place " + place, script + " = 20\ngrid = -4\nfault = 1 " + place);
        }
    }

    private void end() {
        told(3, "an empty TAPE has no byte", """
            end 0 = 0
            kept end {1 20 MAX -1 MIN} = -1
            """);
        told(3, "n below 0, n above what it has: nothing happens", """
            put: grid columns 2 rows 2 width 1 limit 3 wear 9;
            kept end {-1 MIN 46 700 701 MAX} = -1
            count 7 = 45
            grid = 1
            """);
        told(3, "as many as it has", """
            put: grid columns 2 rows 2 width 1 limit 3 wear 9;
            kept end 45 = 45
            grid = 1
            """);
        told(3, "a full TAPE", """
            tape 700
            kept end 701 = -1
            end 700 = 700
            end 699 = 699
            end 700 = -1
            """);
        told(3, "its first n bytes alone", """
            put: grid columns 2 rows 2 width 1 limit 3 wear 9;pad at 0 0;nonsense
            end 56 = 56
            count 7 = 56
            kept end 57 = -1
            grid = 2
            """);
        told(3, "one byte less cuts the sign", """
            put: grid columns 2 rows 2 width 1 limit 3 wear 9;pad at 0 0;
            end 55 = 55
            grid = -4
            fault = 1 55
            """);
        told(3, "n 0: an empty TAPE", """
            put: nonsense
            end 0 = 0
            count 7 = 0
            grid = 0
            fault = 0 -1
            """);
        told(3, "the GRID stays", """
            tell LINE
            put: nonsense
            end 3 = 3
            count = 3 1 10 5 2 0 3 3 1 0
            """);
    }

    private void grid() {
        told(4, "an empty TAPE on a new object: no GRID", """
            grid = 0
            fault = 0 -1
            count 6 = 0
            area = -2
            """);
        told(4, "an empty TAPE behind a GRID: there is none then", """
            tell GROUPS
            draw 1 9 = 5
            grid = 0
            fault = 0 -1
            count = 0 0 0 0 0 0 0 0 0 0 -1
            holds = -2
            budget {0 1 2 3} = -1
            node 1 {0 1 2 3} = -1
            undo = -2
            anew = -2
            did 2 0 = -2
            """);
        told(4, "blanks alone: no LINES, no GRID", """
            tell LINE
            text 0: <32><10><32><10>
            count 7 = 0
            holds = -2
            """);
        told(4, "the TAPE is empty then", """
            tell LINE
            count 7 = 0
            put: nonsense
            grid = -4
            count 7 = 0
            grid = 0
            """);
        told(4, "in place of another: nothing of it stays", """
            tell GROUPS
            text 1: grid columns 4 rows 1 width 2 limit 7 wear 3;
            count = 4 1 7 3 3 0 1 0 0 15
            budget = 999 999 999 999
            node {0 1 2 3} 1 = 0
            node {0 1 2 3} 2 = 0
            strap {0 1 2} 2 = 2
            tell SINGLE
            count = 1 1 0 1 0 0 3 0 1 0
            node 1 0 = -1
            strap 0 0 = -1
            """);
        told(4, "what was found for another GRID is found anew", """
            tell LINE
            worst = 2
            lasts = -1
            pad 0 = 2
            pads 1 = 4
            widens = 0
            fewest = 0
            slims = 1
            vital = 0
            pairs = 0
            tell SQUARE
            worst = 3
            lasts = 0
            pad 0 = 3
            pads 1 = 8
            fewest = -1
            slims = -1
            vital = 0
            spare = 0
            """);
        told(4, "no acts", """
            tell LINE
            lay 0 1 = 2
            year = 1
            tell LINE
            count 5 = 0
            strap 0 2 = 2
            did {0 1 2 3} {0 1} = 0
            undo = -5
            anew = 0
            """);
        told(4, "a FAULT: all else stays", """
            tell LINE
            lay 0 1 = 2
            draw 2 7 = 6
            image 1 = 0
            feeds 1 = 2
            put: grid columns 2 rows 2 width 1 limit 3 wear 9;pad at 1 1;load at 0 0 draws 9;nonsense
            grid = -4
            fault = 1 76
            count = 3 1 10 5 2 3 3 0 3 0
            strap 0 2 = 1
            node 2 1 = 7
            node 0 1 = 0
            undo = 2
            back 1 = 0
            back 0 = -6
            count 5 = 2
            """);
        told(4, "a FAULT with no GRID: there is none", """
            put: nonsense
            grid = -4
            fault = 1 0
            holds = -2
            count 6 = 0
            """);
        told(4, "IMAGES stay", """
            tell LINE
            image 0 = 0
            tell SQUARE
            back 0 = 0
            count 4 = 2
            grid = 0
            back 0 = 0
            count 4 = 2
            """);
        told(4, "one LINE, many LINES", "text 1: " + GOOD + "\ntext 26: " + GOOD + "strap at 0 0 east width 2;".repeat(24)
            + "strap at 0 0 east width 3;\nstrap 0 2 = 3\ncount 6 = 26");
    }

    private void gridLine() {
        told(4, "columns 1 .. 9", """
            text 1: grid columns 1 rows 1 width 1 limit 3 wear 9;
            count = 1 1
            text 1: grid columns 9 rows 1 width 1 limit 3 wear 9;
            count = 9 1
            fault 2 13: grid columns 0 rows 1 width 1 limit 3 wear 9;
            fault 2 13: grid columns 10 rows 1 width 1 limit 3 wear 9;
            """);
        told(4, "rows 1 .. 9", """
            text 1: grid columns 1 rows 9 width 1 limit 3 wear 9;
            count = 1 9
            fault 2 20: grid columns 1 rows 0 width 1 limit 3 wear 9;
            fault 2 20: grid columns 1 rows 10 width 1 limit 3 wear 9;
            """);
        told(4, "columns times rows 9 at most, at rows", """
            text 1: grid columns 3 rows 3 width 1 limit 3 wear 9;
            count = 3 3 3 9 12
            text 1: grid columns 4 rows 2 width 1 limit 3 wear 9;
            count = 4 2 3 9 10
            text 1: grid columns 2 rows 4 width 1 limit 3 wear 9;
            count = 2 4 3 9 10
            fault 2 20: grid columns 5 rows 2 width 1 limit 3 wear 9;
            fault 2 20: grid columns 2 rows 5 width 1 limit 3 wear 9;
            fault 2 20: grid columns 9 rows 2 width 1 limit 3 wear 9;
            fault 2 20: grid columns 9 rows 9 width 1 limit 3 wear 9;
            fault 2 20: grid columns 4 rows 3 nonsense
            """);
        told(4, "width 0 .. 4", """
            text 1: grid columns 2 rows 1 width 0 limit 3 wear 9;
            strap 0 2 = 0
            text 1: grid columns 2 rows 1 width 4 limit 3 wear 9;
            strap 0 2 = 4
            fault 2 28: grid columns 2 rows 1 width 5 limit 3 wear 9;
            """);
        told(4, "LIMIT 0 .. 999", """
            text 1: grid columns 2 rows 1 width 1 limit 0 wear 9;
            count 2 = 0
            text 1: grid columns 2 rows 1 width 1 limit 999 wear 9;
            count 2 = 999
            fault 2 36: grid columns 2 rows 1 width 1 limit 1000 wear 9;
            """);
        told(4, "WEAR 1 .. 999", """
            text 1: grid columns 2 rows 1 width 1 limit 3 wear 1;
            count 3 = 1
            text 1: grid columns 2 rows 1 width 1 limit 3 wear 999;
            count 3 = 999
            fault 2 43: grid columns 2 rows 2 width 1 limit 3 wear 0;
            fault 2 43: grid columns 2 rows 2 width 1 limit 3 wear 1000;
            """);
        told(4, "grid is the first LINE and no other", """
            fault 1 0: pad at 0 0;
            fault 1 0: strap at 0 0 east width 1;
            fault 1 0: load at 0 0 draws 1;
            fault 1 0: budget 0 is 1;
            fault 1 2: <32><10>budget 0 is 1; GOOD
            fault 1 45: GOODGOOD
            fault 1 57: GOODpad at 0 0; GOOD
            """);
    }

    private void strapLine() {
        told(4, "a strap east: not from the last column", """
            text 2: GOODstrap at 0 1 east width 4;
            strap 3 2 = 4
            fault 2 58: GOODstrap at 1 0 east width 1;
            fault 2 58: GOODstrap at 1 1 east width 1;
            fault 2 58: grid columns 1 rows 4 width 1 limit 3 wear 9;strap at 0 0 east width 1;
            """);
        told(4, "a strap south: not from the last row", """
            text 2: GOODstrap at 1 0 south width 4;
            strap 2 2 = 4
            fault 2 58: GOODstrap at 0 1 south width 1;
            fault 2 58: GOODstrap at 1 1 south width 1;
            fault 2 58: grid columns 4 rows 1 width 1 limit 3 wear 9;strap at 0 0 south width 1;
            """);
        told(4, "a strap to no other side", """
            fault 1 58: GOODstrap at 1 1 north width 1;
            fault 1 58: GOODstrap at 1 1 west width 1;
            fault 1 58: GOODstrap at 0 0 width 1;
            """);
        told(4, "a strap at x 0 .. C - 1, y 0 .. R - 1", """
            fault 2 54: GOODstrap at 2 0 east width 1;
            fault 2 56: GOODstrap at 0 2 east width 1;
            text 2: grid columns 4 rows 2 width 1 limit 3 wear 9;strap at 3 0 south width 2;
            strap 6 = 3 7 2
            fault 2 54: grid columns 4 rows 2 width 1 limit 3 wear 9;strap at 4 0 south width 2;
            fault 2 56: grid columns 4 rows 2 width 1 limit 3 wear 9;strap at 3 2 south width 2;
            text 2: grid columns 2 rows 4 width 1 limit 3 wear 9;strap at 0 3 east width 2;
            strap 9 = 6 7 2
            fault 2 54: grid columns 2 rows 4 width 1 limit 3 wear 9;strap at 2 3 east width 2;
            fault 2 56: grid columns 2 rows 4 width 1 limit 3 wear 9;strap at 0 4 east width 2;
            """);
        told(4, "a strap's width 0 .. 4", """
            text 3: GOODstrap at 0 0 east width 0;strap at 0 0 south width 4;
            strap 0 2 = 0
            strap 1 2 = 4
            strap 2 2 = 1
            fault 2 69: GOODstrap at 0 0 east width 5;
            fault 2 70: GOODstrap at 0 0 south width 10;
            """);
        told(4, "a strap told again is as told last", """
            text 4: GOODstrap at 0 0 east width 0;strap at 0 0 east width 3;strap at 0 0 east width 2;
            strap 0 2 = 2
            """);
    }

    private void padAndLoadLines() {
        told(4, "a pad at x 0 .. C - 1, y 0 .. R - 1", """
            text 3: GOODpad at 0 0;pad at 1 1;
            count 8 = 9
            fault 2 52: GOODpad at 2 0;
            fault 2 54: GOODpad at 0 2;
            text 2: grid columns 4 rows 2 width 1 limit 3 wear 9;pad at 3 1;
            count 8 = 128
            fault 2 54: grid columns 4 rows 2 width 1 limit 3 wear 9;pad at 1 2;
            text 2: grid columns 2 rows 4 width 1 limit 3 wear 9;pad at 1 2;
            count 8 = 32
            fault 2 52: grid columns 2 rows 4 width 1 limit 3 wear 9;pad at 2 1;
            """);
        told(4, "a pad: each NODE once, at y", """
            fault 2 65: GOODpad at 0 0;pad at 0 0;
            fault 2 76: GOODpad at 0 1;pad at 1 0;pad at 1 0 nonsense
            text 5: GOODpad at 0 0;pad at 1 0;pad at 0 1;pad at 1 1;
            count 8 = 15
            """);
        told(4, "a load: each NODE once, at y", """
            fault 2 75: GOODload at 1 1 draws 1;load at 1 1 draws 1;
            text 3: GOODload at 1 0 draws 1;load at 0 1 draws 2;
            node 1 1 = 1
            node 2 1 = 2
            """);
        told(4, "a pad and a load at one NODE", """
            text 3: GOODpad at 0 1;load at 0 1 draws 1;
            node 2 = 1 1 0 0
            text 3: GOODload at 0 1 draws 1;pad at 0 1;
            node 2 = 1 1 0 0
            """);
        told(4, "a load at x 0 .. C - 1, y 0 .. R - 1", """
            fault 2 53: GOODload at 2 1 draws 1;
            fault 2 55: GOODload at 1 2 draws 1;
            text 2: GOODload at 1 1 draws 1;
            node 3 1 = 1
            """);
        told(4, "draws 1 .. 99", """
            text 3: GOODload at 0 0 draws 1;load at 1 0 draws 99;
            node 0 1 = 1
            node 1 1 = 99
            fault 2 63: GOODload at 0 0 draws 0;
            fault 2 63: GOODload at 0 0 draws 100;
            """);
        told(4, "GROUP 1 .. 3, 0 without", """
            text 4: GOODload at 0 0 draws 9 group 1;load at 1 0 draws 9 group 3;load at 0 1 draws 9;
            node {0 1 2 3} 0 = 0
            node 0 2 = 1
            node 1 2 = 3
            node 2 2 = 0
            node 3 2 = 0
            fault 2 71: GOODload at 0 0 draws 9 group 0;
            fault 2 71: GOODload at 0 0 draws 9 group 4;
            fault 1 70: GOODload at 0 0 draws 9 group;
            fault 1 65: GOODload at 0 0 draws 9 3;
            """);
    }

    private void budgetLine() {
        told(4, "a budget of 0 .. 3", """
            text 5: GOODbudget 3 is 1;budget 2 is 2;budget 1 is 3;budget 0 is 4;
            budget = 4 3 2 1 -1
            fault 2 52: GOODbudget 4 is 1;
            """);
        told(4, "a budget 0 .. 999, 999 without", """
            text 3: GOODbudget 0 is 0;budget 3 is 999;
            budget = 0 999 999 999 -1
            fault 2 57: GOODbudget 0 is 1000;
            """);
        told(4, "a budget: each once, at its first number", """
            fault 2 66: GOODbudget 0 is 9;budget 0 is 9;
            fault 2 66: GOODbudget 3 is 9;budget 3 nonsense
            fault 2 68: GOODbudget 2 is 999;budget 2 is 1000;
            """);
    }

    private void tokens() {
        told(4, "blanks are 32 and 10 alone", """
            text 2: <10>grid<10>columns<32><32>2<10><10>rows 2 width 1 limit 3 wear 9<32>;<10>pad at 0 0<10>;<10>
            fault 1 4: grid<9>columns 2 rows 2
            fault 1 4: grid<13>columns 2 rows 2
            fault 1 4: grid<11>columns 2 rows 2
            fault 1 4: grid<0>columns 2 rows 2
            fault 1 4: grid<31>columns 2 rows 2
            fault 1 4: grid<33>columns 2 rows 2
            fault 1 4: grid<160>columns 2 rows 2
            """);
        told(4, "no blanks where TOKENS are apart without", """
            text 3: grid columns2rows2width1limit3wear9;load at1 0draws9group2;budget2is5;
            node 1 1 = 9
            budget 2 = 5
            fault 1 0: gridcolumns 2 rows 2
            fault 2 13: grid columns 22rows
            """);
        told(4, "a TOKEN is the longest", """
            fault 1 0: grids columns 2
            fault 1 0: gri columns 2
            fault 1 5: grid column 2
            fault 1 5: grid columnss 2
            fault 2 13: grid columns 21 rows
            fault 1 15: grid columns 2 1 rows
            fault 1 0: gridGOOD
            """);
        told(4, "bytes about a .. z, 0 .. 9, ;", """
            fault 1 4: grid<96> columns
            fault 1 4: grid<123> columns
            fault 1 0: Grid columns
            fault 1 4: grid<90> columns
            fault 1 14: grid columns 2<47> rows
            fault 1 14: grid columns 2<58> rows
            fault 1 44: grid columns 2 rows 2 width 1 limit 3 wear 9<58>
            fault 1 44: grid columns 2 rows 2 width 1 limit 3 wear 9<60>
            fault 1 13: grid columns <45>2 rows
            fault 1 13: grid columns <43>2 rows
            fault 1 14: grid columns 1.5 rows
            fault 1 0: <128>
            fault 1 0: <255>
            """);
        told(4, "a word with a letter of a and one of z", """
            fault 1 45: GOODa
            fault 1 45: GOODz at 0 0;
            fault 1 45: GOODpadz at 0 0;
            fault 1 45: GOODapad at 0 0;
            """);
        told(4, "the sign ; ends a LINE, and stands nowhere else", """
            fault 1 0: ;
            fault 1 45: GOOD;
            fault 1 46: GOOD ;
            fault 1 56: GOODpad at 0 0;;
            fault 1 4: grid;
            fault 1 49: GOODpad ;at 0 0;
            """);
        told(5, "the end of the TEXT: its place, blanks and all", """
            fault 1 4: grid
            fault 1 6: grid<32><10>
            fault 1 44: grid columns 2 rows 2 width 1 limit 3 wear 9
            fault 1 46: grid columns 2 rows 2 width 1 limit 3 wear 9<32><32>
            fault 1 48: GOODpad
            fault 1 55: GOODpad at 0 0
            fault 1 64: GOODload at 0 0 draws 5
            fault 1 70: GOODload at 0 0 draws 5 group
            fault 1 72: GOODload at 0 0 draws 5 group 1
            fault 1 51: GOODbudget
            """);
    }

    private void manyDigits() {
        String zeros = "0".repeat(500);
        String nines = "9".repeat(600);
        told(4, "noughts ahead of a number", "text 1: grid columns 0002 rows 01 width 000 limit 0000000000000000000000005 wear 00999;\n"
            + "count = 2 1 5 999 1\ntext 1: grid columns " + zeros + "3 rows 3 width 1 limit 3 wear 9;\ncount 0 = 3\n"
            + "fault 2 13: grid columns " + zeros + " rows 3 width 1 limit 3 wear 9;");
        told(5, "a number of many digits is out of its bounds", """
            fault 2 13: grid columns 4294967297 rows 1 width 1 limit 3 wear 9;
            fault 2 13: grid columns 4294967298 rows 1 width 1 limit 3 wear 9;
            fault 2 13: grid columns 18446744073709551617 rows 1 width 1 limit 3 wear 9;
            fault 2 13: grid columns 18446744073709551618 rows 1 width 1 limit 3 wear 9;
            fault 2 13: grid columns 2147483648 rows 1 width 1 limit 3 wear 9;
            fault 2 13: grid columns 100000000000000000000000000000000000000000 rows 1 width 1 limit 3 wear 9;
            fault 2 20: grid columns 2 rows 4294967297 width 1 limit 3 wear 9;
            fault 2 28: grid columns 2 rows 2 width 4294967296 limit 3 wear 9;
            fault 2 36: grid columns 2 rows 2 width 1 limit 4294967299 wear 9;
            fault 2 43: grid columns 2 rows 2 width 1 limit 3 wear 4294967305;
            fault 2 52: GOODpad at 4294967296 0;
            fault 2 54: GOODpad at 0 4294967296;
            fault 2 63: GOODload at 0 0 draws 4294967301;
            fault 2 71: GOODload at 0 0 draws 5 group 4294967297;
            fault 2 69: GOODstrap at 0 0 east width 4294967297;
            fault 2 52: GOODbudget 4294967296 is 5;
            fault 2 57: GOODbudget 0 is 4294967301;
            """);
        told(5, "a number of 600 digits", "fault 2 13: grid columns " + nines + " rows 1\nfault 2 57: GOODbudget 0 is " + nines + ";");
    }

    private void firstFault() {
        told(5, "the first by its place, whatever it is", """
            fault 2 13: grid columns 10 rows <200>
            fault 1 15: grid columns 9 <200> 10
            fault 2 13: grid columns 0 nonsense
            fault 2 52: GOODpad at 9 9;
            fault 2 54: GOODpad at 1 9 nonsense
            fault 1 52: GOODpad at x 9;
            fault 2 58: GOODstrap at 1 0 east nonsense
            fault 2 63: GOODload at 0 0 draws 100 group 9;
            """);
        told(5, "of one place the least: a number that can't stand there", """
            fault 1 5: grid 1000
            fault 1 15: grid columns 9 1000
            fault 1 45: GOOD1000
            fault 1 58: GOODstrap at 1 0 1000
            fault 1 56: GOODpad at 0 0 1000;
            fault 1 54: GOODbudget 0 1000;
            """);
    }

    private void fault() {
        told(5, "ahead of any grid()", """
            fault = 0 -1 -1
            put: nonsense
            fault = 0 -1 -1
            """);
        told(5, "another what", """
            fault {-1 2 3 MIN MAX} = -1
            tell LINE
            fault {-1 2 3 MIN MAX} = -1
            fault 1 0: nonsense
            fault {-1 2 3 MIN MAX} = -1
            """);
        told(5, "of the latest grid(): a FAULT, then none", """
            fault 2 13: grid columns 0
            fault = 2 13 -1
            tell LINE
            fault = 0 -1 -1
            fault 1 2: <32><32>nonsense
            fault = 1 2 -1
            grid = 0
            fault = 0 -1 -1
            """);
        told(5, "feed(), end(), acts and IMAGES leave it", """
            tell LINE
            image 0 = 0
            fault 2 13: grid columns 0
            feed 1 2 3 4 5 = 20
            end 3 = 3
            lay 0 1 = 2
            back 0 = 0
            undo = -5
            fault = 2 13 -1
            """);
    }
}
