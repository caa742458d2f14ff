/** Boundary cases of promises 58 to 66: acts, what they did, IMAGES, taking back. */
final class ActEdges extends Edges {
    @Override
    void addAll() {
        lay();
        feeds();
        draw();
        year();
        did();
        image();
        back();
        undo();
        anew();
    }

    private void lay() {
        edge(58, "n 0 .. 4", """
            tell LINE
            lay 0 0 = 2
            strap 0 2 = 0
            count 9 = 6
            lay 0 4 = 0
            strap 0 2 = 4
            drop 2 = 9 2
            count 5 = 2
            """);
        edge(58, "no such n", """
            tell LINE
            kept lay 0 {-1 5 MIN MAX} = -2
            """);
        edge(58, "no such STRAP", """
            tell LINE
            kept lay {-1 2 12 MIN MAX} 1 = -2
            tell SINGLE
            kept lay 0 1 = -2
            """);
        edge(58, "it is so", """
            tell LINE
            kept lay 0 2 = -5
            lay 0 1 = 2
            kept lay 0 1 = -5
            tell BARE
            kept lay 0 0 = -5
            """);
        edge(58, "there were 20 acts, of any kind", """
            tell LINE
            17x year = 0
            lay 0 1 = 2
            feeds 2 = 2
            draw 1 1 = 0
            count 5 = 20
            kept lay 0 3 = -5
            kept lay 0 1 = -5
            kept lay 0 5 = -2
            kept lay 2 1 = -2
            undo = 19
            lay 0 3 = 1
            count 5 = 20
            """);
        edge(58, "the 20th act is done", """
            tell LINE
            19x year = 0
            lay 0 3 = 2
            strap 0 2 = 3
            count 5 = 20
            """);
        edge(58, "what was found before it is found anew", """
            tell LINE
            worst = 2
            most 2 0 = 6
            lasts = -1
            pad 0 = 2
            padded 0 0 = 6
            widens = 0
            fewest = 0
            slims = 1
            vital = 0
            spare = 0
            lay 1 0 = 2
            worst = 0
            most 2 0 = -1
            lasts = 0
            pad 0 = 2
            padded 0 0 = 0
            widens = 1
            fewest = 1
            slims = -1
            lay 1 1 = 0
            lasts = 1
            fewest = 0
            slims = 0
            """);
    }

    private void feeds() {
        edge(59, "a PAD or none, how many there are", """
            tell BARE
            feeds 0 = 1
            feeds 8 = 2
            count 8 = 257
            feeds 0 = 1
            feeds 8 = 0
            count 8 = 0
            count 5 = 4
            feeds 0
            feeds 1
            feeds 2
            feeds 3
            feeds 4
            feeds 5
            feeds 6
            feeds 7
            feeds 8 = 9
            """);
        edge(59, "no such NODE", """
            tell LINE
            kept feeds {-1 3 9 MIN MAX} = -2
            """);
        edge(59, "there were 20 acts", """
            tell LINE
            20x year = 0
            kept feeds 0 = -5
            kept feeds 2 = -5
            kept feeds 3 = -2
            undo = 19
            feeds 2 = 2
            """);
        edge(59, "the 20th act is done", """
            tell LINE
            19x year = 0
            feeds 2 = 2
            count 8 = 5
            """);
        edge(59, "what was found before it is found anew", """
            tell LINE
            worst = 2
            pads 1 = 4
            pad 1 = 1
            lost 0 = 6
            vital = 0
            enough = 0
            feeds 0 = 0
            worst = -1
            pads 1 = 4
            pad 0 = 2
            lost 0 = 7
            enough = 1
            lasts = 0
            """);
    }

    private void draw() {
        edge(60, "n 0 .. 99", """
            tell LINE
            draw 2 0 = 6
            node 2 1 = 0
            drop 2 = 0 1
            draw 2 99 = 0
            node 2 1 = 99
            drop 2 = 99 1
            draw 1 1 = 0
            count 5 = 3
            """);
        edge(60, "no such n", """
            tell LINE
            kept draw 2 {-1 100 MIN MAX} = -2
            """);
        edge(60, "no such NODE", """
            tell LINE
            kept draw {-1 3 9 MIN MAX} 1 = -2
            """);
        edge(60, "it is so", """
            tell LINE
            kept draw 2 6 = -5
            kept draw 0 0 = -5
            draw 0 1 = 0
            kept draw 0 1 = -5
            """);
        edge(60, "there were 20 acts", """
            tell LINE
            20x year = 0
            kept draw 2 7 = -5
            kept draw 2 6 = -5
            kept draw 2 100 = -2
            kept draw 3 1 = -2
            undo = 19
            draw 2 7 = 6
            """);
        edge(60, "the 20th act is done", """
            tell LINE
            19x year = 0
            draw 2 7 = 6
            node 2 1 = 7
            """);
        edge(60, "what was found before it is found anew", """
            tell LINE
            worst = 2
            foe = 2
            share 2 2 0 = 1
            lasts = -1
            fewest = 0
            pairs = 0
            spare = 0
            chance 0 1 = 1
            draw 2 0 = 6
            worst = 0
            foe = 0
            share 2 2 0 = 0
            spare = 3
            slims = 4
            """);
    }

    private void year() {
        edge(61, "none wears: an act all the same", """
            tell LINE
            year = 0
            count 5 = 1
            tell SINGLE
            year = 0
            count 5 = 1
            tell BARE
            year = 0
            """);
        edge(61, "all at once, down to 0, no further", """
            tell LINE
            draw 2 20 = 6
            year = 2
            strap {0 1} 2 = 1
            year = 2
            strap {0 1} 2 = 0
            year = 0
            strap {0 1} 2 = 0
            count 5 = 4
            """);
        edge(61, "at WEAR none, above it one", """
            tell WEARS
            draw 1 4 = 5
            year = 0
            draw 1 5 = 4
            year = 1
            strap 0 2 = 3
            """);
        edge(61, "there were 20 acts", """
            tell WEARS
            10x draw 1 {4 5}
            count 5 = 20
            wearing = 1
            kept year = -5
            strap 0 2 = 4
            undo = 19
            year = 0
            """);
        edge(61, "the 20th act is done", """
            tell WEARS
            18x feeds 0
            draw 1 6 = 5
            year = 1
            strap 0 2 = 3
            count 5 = 20
            """);
        edge(61, "what was found before it is found anew", """
            tell WEARS
            drop 1 = 5 4
            most 1 = 5 4
            lasts = 2
            worn 0 = 4
            calms = 4
            padded 0 = 5 4
            slims = 1
            fewest = 0
            without 0 0 = 0
            year = 1
            drop 1 = 5 3
            most 1 = 5 3
            lasts = 1
            worn 0 = 3
            calms = 3
            padded 0 = 5 3
            slims = 0
            year = 1
            fewest = 1
            widens = 1
            lasts = 0
            """);
        edge(61, "there is no GRID", """
            kept year = -2
            """);
    }

    private void did() {
        edge(62, "none: 0 and 0", """
            tell LINE
            did {0 1 2 3} {0 1} = 0
            """);
        edge(62, "kind 0: widths that were", """
            tell LINE
            lay 0 0 = 2
            did 0 = 1 2 -2
            lay 0 4 = 0
            did 0 = 2 2 -2
            lay 0 1 = 4
            did 0 = 3 6 -2
            did {1 2 3} {0 1} = 0
            """);
        edge(62, "kind 1: 0 together", """
            tell LINE
            feeds 2 = 2
            feeds 1 = 3
            did 1 = 2 0 -2
            did {0 2 3} {0 1} = 0
            """);
        edge(62, "kind 2: LOADS that were", """
            tell LINE
            draw 2 99 = 6
            draw 2 0 = 99
            draw 1 5 = 0
            did 2 = 3 105 -2
            did {0 1 3} {0 1} = 0
            """);
        edge(62, "kind 3: STRAPS that wore, a year without any", """
            tell LINE
            year = 0
            did 3 = 1 0 -2
            draw 2 20 = 6
            year = 2
            year = 2
            year = 0
            did 3 = 4 4 -2
            did {0 1} {0 1} = 0
            """);
        edge(62, "what is refused, what is taken back is none", """
            tell LINE
            lay 0 2 = -5
            did 0 0 = 0
            lay 0 1 = 2
            lay 0 3 = 1
            undo = 1
            did 0 = 1 2
            anew = 1
            did 0 = 0 0
            """);
        edge(62, "20 acts of one kind", """
            tell LINE
            10x draw 2 {99 98}
            did 2 = 20 1878
            """);
        edge(62, "no such kind, no such what", """
            tell LINE
            did {-1 4 MIN MAX} {0 1} = -2
            did 0 {-1 2 MIN MAX} = -2
            """);
        edge(62, "there is no GRID", """
            did {0 1 2 3} {0 1} = -2
            """);
    }

    private void image() {
        edge(63, "no such k", """
            kept image {-1 3 MIN MAX} = -2
            tell LINE
            kept image {-1 3 MIN MAX} = -2
            """);
        edge(63, "three, each its own", """
            tell LINE
            image 0 = 0
            lay 0 1 = 2
            image 1 = 0
            lay 0 0 = 1
            image 2 = 0
            back 0 = 0
            strap 0 2 = 2
            count 5 = 0
            back 2 = 0
            strap 0 2 = 0
            count 5 = 2
            back 1 = 0
            strap 0 2 = 1
            count 5 = 1
            """);
        edge(63, "kept anew, it has the later one", """
            tell LINE
            image 0 = 0
            draw 2 9 = 6
            image 0 = 0
            draw 2 8 = 9
            back 0 = 0
            node 2 1 = 9
            """);
        edge(63, "it keeps: later acts, years, grids do nothing to it", """
            tell LINE
            draw 2 20 = 6
            image 0 = 0
            year = 2
            feeds 2 = 2
            draw 1 3 = 0
            anew = 4
            tell GROUPS
            lay 0 4 = 1
            back 0 = 0
            count = 3 1 10 5 2 1 3 0 1 0
            strap {0 1} 2 = 2
            node 2 1 = 20
            node 1 1 = 0
            budget = 999 999 999 999
            """);
        edge(63, "the GRID, the acts, the TAPE stay", """
            tell LINE
            lay 0 1 = 2
            feed 1 2 3 4 5 = 20
            image 0 = 0
            count = 3 1 10 5 2 1 3 20 1 0
            undo = 0
            strap 0 2 = 2
            """);
    }

    private void back() {
        edge(64, "no such k", """
            tell LINE
            image 0 = 0
            kept back {-1 3 MIN MAX} = -2
            """);
        edge(64, "it has nothing", """
            kept back {0 1 2} = -6
            tell LINE
            kept back {0 1 2} = -6
            image 1 = 0
            kept back {0 2} = -6
            back 1 = 0
            """);
        edge(64, "the acts, too: they can be taken back", """
            tell LINE
            lay 0 1 = 2
            draw 2 20 = 6
            year = 2
            feeds 2 = 2
            image 0 = 0
            anew = 4
            back 0 = 0
            count 5 = 4
            did 0 = 1 2
            did 2 = 1 6
            did 3 = 1 2
            did 1 = 1 0
            undo = 3
            count 8 = 1
            undo = 2
            strap 0 2 = 1
            strap 1 2 = 2
            undo = 1
            node 2 1 = 6
            undo = 0
            strap 0 2 = 2
            undo = -5
            """);
        edge(64, "the acts, too: others have been done since", """
            tell LINE
            lay 0 1 = 2
            draw 2 20 = 6
            year = 2
            feeds 2 = 2
            image 0 = 0
            anew = 4
            year = 0
            feeds 1 = 2
            lay 1 4 = 2
            draw 1 7 = 0
            back 0 = 0
            did 0 = 1 2
            did 1 = 1 0
            did 2 = 1 6
            did 3 = 1 2
            undo = 3
            count 8 = 1
            undo = 2
            strap 0 2 = 1
            strap 1 2 = 2
            undo = 1
            node 2 1 = 6
            undo = 0
            strap 0 2 = 2
            """);
        edge(64, "20 acts, and 20 others since", """
            tell WEARS
            10x draw 1 {4 5}
            image 1 = 0
            anew = 20
            10x lay 0 {3 4}
            did 0 = 20 70
            back 1 = 0
            did 0 = 0 0
            did 2 = 20 90
            undo = 19
            node 1 1 = 4
            strap 0 2 = 4
            anew = 19
            node 1 1 = 5
            """);
        edge(64, "again and again", """
            tell LINE
            image 0 = 0
            lay 0 0 = 2
            back 0 = 0
            lay 0 1 = 2
            back 0 = 0
            strap 0 2 = 2
            count 5 = 0
            """);
        edge(64, "another GRID, larger, smaller", """
            tell SINGLE
            image 0 = 0
            tell CROSS
            image 1 = 0
            back 0 = 0
            count = 1 1 0 1 0 0 3 0 1 0
            strap 0 0 = -1
            node 1 0 = -1
            back 1 = 0
            count = 3 3 20 6 12 0 6 0 16 0
            drop 8 = 18 1
            """);
        edge(64, "20 acts: no more can be done", """
            tell LINE
            20x year = 0
            image 0 = 0
            anew = 20
            year = 0
            back 0 = 0
            count 5 = 20
            kept year = -5
            """);
        edge(64, "the TAPE and the FAULT stay", """
            tell LINE
            image 0 = 0
            fault 2 13: grid columns 0
            feed 1 2 3 4 5 = 20
            back 0 = 0
            count 7 = 20
            fault = 2 13
            """);
        edge(64, "an IMAGE of no GRID: there is none then", """
            image 0 = 0
            tell LINE
            lay 0 1 = 2
            back 0 = 0
            count = 0 0 0 0 0 0 0 0 0 0
            holds = -2
            undo = -2
            """);
        edge(64, "what was found before it is found anew", """
            tell LINE
            image 0 = 0
            lay 1 0 = 2
            worst = 0
            lasts = 0
            pad 0 = 2
            pads 1 = 4
            widens = 1
            fewest = 1
            slims = -1
            vital = 0
            back 0 = 0
            worst = 2
            lasts = -1
            pads 1 = 4
            widens = 0
            fewest = 0
            slims = 1
            """);
    }

    private void undo() {
        edge(65, "there is none", """
            tell LINE
            kept undo = -5
            lay 0 1 = 2
            undo = 0
            kept undo = -5
            """);
        edge(65, "each kind", """
            tell LINE
            lay 0 0 = 2
            undo = 0
            strap 0 2 = 2
            draw 2 99 = 6
            undo = 0
            node 2 1 = 6
            feeds 2 = 2
            undo = 0
            count 8 = 1
            feeds 0 = 0
            undo = 0
            count 8 = 1
            draw 2 20 = 6
            year = 2
            undo = 1
            strap {0 1} 2 = 2
            """);
        edge(65, "a year without any wear", """
            tell LINE
            year = 0
            undo = 0
            strap {0 1} 2 = 2
            """);
        edge(65, "a STRAP laid, worn, laid again", """
            tell WEARS
            lay 0 3 = 4
            year = 1
            year = 1
            lay 0 4 = 1
            undo = 3
            strap 0 2 = 1
            undo = 2
            strap 0 2 = 2
            undo = 1
            strap 0 2 = 3
            undo = 0
            strap 0 2 = 4
            """);
        edge(65, "20 acts, one by one", """
            tell WEARS
            10x draw 1 {4 5}
            undo = 19
            node 1 1 = 4
            undo = 18
            node 1 1 = 5
            17x undo
            undo = 0
            node 1 1 = 5
            undo = -5
            """);
        edge(65, "there is no GRID", """
            kept undo = -2
            tell LINE
            lay 0 1 = 2
            grid = 0
            kept undo = -2
            """);
        edge(65, "what was found before it is found anew", """
            tell LINE
            lay 1 0 = 2
            worst = 0
            lasts = 0
            fewest = 1
            slims = -1
            spare = 0
            undo = 0
            worst = 2
            lasts = -1
            fewest = 0
            slims = 1
            """);
    }

    private void anew() {
        edge(66, "there were none", """
            tell LINE
            kept anew = 0
            """);
        edge(66, "all 20", """
            tell WEARS
            lay 0 3 = 4
            year = 1
            feeds 1 = 2
            feeds 0 = 1
            8x draw 0 {4 5}
            count 5 = 20
            anew = 20
            count = 2 1 2 1 1 0 3 0 1 0
            strap 0 2 = 4
            node 0 = 1 0 0 0
            node 1 = 0 5 0 0
            did {0 1 2 3} {0 1} = 0
            undo = -5
            anew = 0
            """);
        edge(66, "there is no GRID", """
            kept anew = -2
            """);
        edge(66, "IMAGES and the TAPE stay", """
            tell LINE
            lay 0 1 = 2
            image 0 = 0
            feed 1 2 3 4 5 = 20
            anew = 1
            count 7 = 20
            back 1 = -6
            back 0 = 0
            count 5 = 1
            strap 0 2 = 1
            """);
        edge(66, "what was found before it is found anew", """
            tell LINE
            lay 1 0 = 2
            worst = 0
            lasts = 0
            fewest = 1
            anew = 1
            worst = 2
            lasts = -1
            fewest = 0
            """);
    }
}
