/** For each promise of the document: ordinary inputs, the edges that it names, and wrong inputs. */
public final class PromiseTests {
    private static final int UNKNOWN = -1, OUTSIDE = -2, STATE = -3, FULL = -4, NONE = -9;
    private static final int MIN = Integer.MIN_VALUE, MAX = Integer.MAX_VALUE;
    private static final int FLOOR = 0, WALL = 1, GLASS = 2, CURTAIN = 3;

    private static int wrong = 0;

    private static void due(int promise, String what, int got, int want) {
        if (got != want) {
            wrong++;
            System.out.println("promise " + promise + ": " + what + ": " + got + ", due is " + want);
        }
    }

    private static void dueOrder(int promise, String what, int[] got, int... want) {
        for (int i = 0; i < Math.max(got.length, want.length); i++)
            due(promise, what + " [" + i + "]", i < got.length ? got[i] : MIN, i < want.length ? want[i] : MIN);
    }

    public static void main(String[] args) {
        constants();
        newObject();
        hall();
        cellAndKind();
        lawAndRange();
        far();
        seesSelfAndKinds();
        seesInLines();
        seesInBoxes();
        seesStraight();
        seesThroughCorners();
        seesInRange();
        viewAndBest();
        picture();
        about();
        seenAndFrom();
        fewestAndPost();
        tour();
        tourOrder();
        step();
        wipe();
        closed();
        shiftAndWhere();
        watched();
        period();
        gap();
        worst();
        arrange();
        theft();
        theftSteps();
        theftWaits();
        hours();
        turn();
        mirror();
        count();
        refusedChangesNothing();
        System.out.println(wrong == 0 ? "PromiseTests: all answers are as due" : "PromiseTests: " + wrong + " are not as due");
        if (wrong != 0) System.exit(1);
    }

    /** A hall drawn: '.' floor, '#' wall, '=' glass, '%' curtain. */
    private static WatchedHalls drawn(String... rows) {
        WatchedHalls x = new WatchedHalls();
        x.hall(rows[0].length(), rows.length);
        for (int y = 0; y < rows.length; y++)
            for (int c = 0; c < rows[y].length(); c++)
                x.cell(y * rows[y].length() + c, ".#=%".indexOf(rows[y].charAt(c)));
        return x;
    }

    private static void go(WatchedHalls x, int watcher, int... cells) {
        for (int i = 0; i < cells.length; i++) due(19, "step " + i, x.step(watcher, cells[i]), i + 1);
    }

    private static int[] tourOf(WatchedHalls x, int cell) {
        int[] d = new int[Math.max(0, x.tour(cell))];
        for (int i = 0; i < d.length; i++) d[i] = x.tourStep(cell, i);
        return d;
    }

    private static int[] theftOf(WatchedHalls x, int picture, int cell, int time) {
        int[] d = new int[Math.max(0, x.theft(picture, cell, time))];
        for (int i = 0; i < d.length; i++) d[i] = x.theftStep(picture, cell, time, i);
        return d;
    }

    private static void constants() {
        due(1, "UNKNOWN", WatchedHalls.UNKNOWN, UNKNOWN);
        due(1, "OUTSIDE", WatchedHalls.OUTSIDE, OUTSIDE);
        due(1, "STATE", WatchedHalls.STATE, STATE);
        due(1, "FULL", WatchedHalls.FULL, FULL);
        due(1, "NONE", WatchedHalls.NONE, NONE);
    }

    private static void newObject() {
        WatchedHalls x = new WatchedHalls();
        due(1, "W", x.count(0), 5);
        due(1, "H", x.count(1), 5);
        due(1, "pictures", x.count(2), 0);
        due(1, "rounds", x.count(3), 0);
        due(1, "stand", x.count(4), 25);
        for (int c = 0; c < 25; c++) due(1, "kind", x.kind(c), FLOOR);
        for (int w = 0; w < 4; w++) {
            due(1, "where", x.where(w, 0), NONE);
            due(1, "shift", x.shift(w, 0), 0);
        }
        due(1, "law", x.law(2), 2);
        due(1, "range", x.range(8), 8);
        // two objects share nothing
        WatchedHalls other = new WatchedHalls();
        other.cell(3, WALL);
        other.picture(4, 0);
        other.step(0, 4);
        due(1, "kind", x.kind(3), FLOOR);
        due(1, "pictures", x.count(2), 0);
        due(1, "rounds", x.count(3), 0);
    }

    private static void hall() {
        WatchedHalls x = new WatchedHalls();
        x.law(1);
        x.range(3);
        x.cell(7, WALL);
        x.picture(1, 2);
        x.step(2, 0);
        x.shift(2, 4);
        x.shift(3, 5);
        int[] bad = {1, 9, 0, -1, MIN, MAX};
        for (int b : bad) {
            due(2, "hall(" + b + ", 3)", x.hall(b, 3), OUTSIDE);
            due(2, "hall(3, " + b + ")", x.hall(3, b), OUTSIDE);
        }
        due(2, "W", x.count(0), 5);
        due(2, "pictures", x.count(2), 1);
        due(2, "rounds", x.count(3), 1);
        due(2, "wall", x.kind(7), WALL);
        due(2, "hall(5, 5)", x.hall(5, 5), 25);
        due(2, "kind", x.kind(7), FLOOR);
        due(2, "pictures", x.count(2), 0);
        due(2, "about", x.about(0, 0), UNKNOWN);
        due(2, "rounds", x.count(3), 0);
        due(2, "shift 2", x.shift(2, 0), 0);
        due(2, "shift 3", x.shift(3, 0), 0);
        due(2, "law", x.law(1), 1);
        due(2, "range", x.range(3), 3);
        for (int w = 2; w <= 8; w++)
            for (int h = 2; h <= 8; h++) {
                due(2, "hall", x.hall(w, h), w * h);
                due(2, "W", x.count(0), w);
                due(2, "H", x.count(1), h);
                due(2, "stand", x.count(4), w * h);
            }
    }

    private static void cellAndKind() {
        WatchedHalls x = new WatchedHalls();
        x.hall(3, 2);
        due(3, "cell(5, 1)", x.cell(5, WALL), FLOOR);
        due(3, "cell(5, 2)", x.cell(5, GLASS), WALL);
        due(3, "cell(5, 3)", x.cell(5, CURTAIN), GLASS);
        due(3, "cell(5, 3)", x.cell(5, CURTAIN), CURTAIN);
        due(4, "kind(5)", x.kind(5), CURTAIN);
        due(4, "kind(4)", x.kind(4), FLOOR);
        due(3, "cell(5, 0)", x.cell(5, FLOOR), CURTAIN);
        due(4, "kind(5)", x.kind(5), FLOOR);
        due(3, "cell(6, 0)", x.cell(6, 0), UNKNOWN);
        due(3, "cell(-1, 0)", x.cell(-1, 0), UNKNOWN);
        due(3, "cell(6, 4)", x.cell(6, 4), UNKNOWN);
        due(3, "cell(0, 4)", x.cell(0, 4), OUTSIDE);
        due(3, "cell(0, -1)", x.cell(0, -1), OUTSIDE);
        due(3, "cell(MIN, MIN)", x.cell(MIN, MIN), UNKNOWN);
        due(3, "cell(0, MAX)", x.cell(0, MAX), OUTSIDE);
        due(4, "kind(0)", x.kind(0), FLOOR);
        due(4, "kind(6)", x.kind(6), UNKNOWN);
        due(4, "kind(-1)", x.kind(-1), UNKNOWN);
        due(4, "kind(MAX)", x.kind(MAX), UNKNOWN);
    }

    private static void lawAndRange() {
        WatchedHalls x = new WatchedHalls();
        due(5, "law(0)", x.law(0), 2);
        due(5, "law(1)", x.law(1), 0);
        due(5, "law(3)", x.law(3), OUTSIDE);
        due(5, "law(-1)", x.law(-1), OUTSIDE);
        due(5, "law(MIN)", x.law(MIN), OUTSIDE);
        due(5, "law(2)", x.law(2), 1);
        due(6, "range(1)", x.range(1), 8);
        due(6, "range(0)", x.range(0), OUTSIDE);
        due(6, "range(9)", x.range(9), OUTSIDE);
        due(6, "range(MAX)", x.range(MAX), OUTSIDE);
        due(6, "range(8)", x.range(8), 1);
    }

    private static void far() {
        WatchedHalls x = drawn(
            "..#.",
            ".#%.",
            "...=");
        due(7, "to itself", x.far(0, 0), 0);
        due(7, "beside", x.far(0, 1), 1);
        due(7, "round the wall, into the curtain", x.far(1, 6), 6);
        due(7, "through the curtain", x.far(1, 3), 8);
        due(7, "and back", x.far(3, 1), 8);
        due(7, "wall", x.far(0, 2), NONE);
        due(7, "from a wall", x.far(2, 0), NONE);
        due(7, "wall to itself", x.far(2, 2), NONE);
        due(7, "glass", x.far(0, 11), NONE);
        due(7, "glass to itself", x.far(11, 11), NONE);
        due(7, "curtain to itself", x.far(6, 6), 0);
        x.cell(6, GLASS);
        due(7, "cut off", x.far(0, 3), NONE);
        due(7, "UNKNOWN", x.far(12, 0), UNKNOWN);
        due(7, "UNKNOWN", x.far(0, 12), UNKNOWN);
        due(7, "UNKNOWN", x.far(-1, MAX), UNKNOWN);
        // the end of a row is no neighbour of the beginning of the next
        WatchedHalls rows = drawn("..", "##", "..");
        due(7, "rows", rows.far(1, 4), NONE);
        WatchedHalls ends = new WatchedHalls();
        due(7, "row ends", ends.far(4, 5), 5);
        WatchedHalls winding = drawn(
            ".#...#.#",
            ".#.#.#.#",
            ".#.#.#.#",
            ".#.#.#.#",
            ".#.#.#.#",
            ".#.#.#.#",
            ".#.#.#.#",
            "...#....");
        due(7, "winding", winding.far(0, 63), 7 + 2 + 7 + 2 + 7 + 3);
        due(7, "winding", winding.far(0, 6), 7 + 2 + 7 + 2 + 7 + 2 + 7);
    }

    private static void seesSelfAndKinds() {
        WatchedHalls x = drawn(
            ".%=.",
            ".#..");
        for (int law = 0; law < 3; law++) {
            x.law(law);
            due(8, "floor itself", x.sees(0, 0), 1);
            due(8, "curtain itself", x.sees(1, 1), 1);
            due(8, "glass itself", x.sees(2, 2), 0);
            due(8, "wall itself", x.sees(5, 5), 0);
            due(8, "floor, curtain", x.sees(0, 1), 0);
            due(8, "curtain, floor", x.sees(1, 0), 0);
            due(8, "glass, floor", x.sees(2, 3), 0);
            due(8, "floor, glass", x.sees(3, 2), 0);
            due(8, "floor, wall", x.sees(4, 5), 0);
            due(8, "floor, floor", x.sees(0, 4), 1);
        }
        due(8, "UNKNOWN", x.sees(8, 0), UNKNOWN);
        due(8, "UNKNOWN", x.sees(0, 8), UNKNOWN);
        due(8, "UNKNOWN", x.sees(-1, 0), UNKNOWN);
        due(8, "UNKNOWN", x.sees(0, MIN), UNKNOWN);
    }

    private static void seesInLines() {
        WatchedHalls x = drawn(
            ".=..",
            ".#..",
            ".%..",
            "....");
        x.law(0);
        due(8, "through glass", x.sees(0, 3), 1);
        due(8, "past a wall", x.sees(4, 6), 0);
        due(8, "past a curtain", x.sees(8, 10), 0);
        due(8, "row", x.sees(12, 15), 1);
        due(8, "column", x.sees(15, 3), 1);
        due(8, "aslant", x.sees(2, 7), 0);
        due(8, "as a knight", x.sees(2, 11), 0);
    }

    private static void seesInBoxes() {
        WatchedHalls x = drawn(
            "..=..",
            ".....",
            "...#.",
            ".%...");
        x.law(1);
        due(8, "box", x.sees(0, 7), 1);
        due(8, "box with glass", x.sees(1, 8), 1);
        due(8, "a wall off the way", x.sees(7, 14), 0);
        due(8, "a wall at a corner of the box", x.sees(8, 14), 0);
        due(8, "a curtain at a corner of the box", x.sees(10, 17), 0);
        due(8, "and from the other side", x.sees(17, 10), 0);
        due(8, "box of rows to the left", x.sees(9, 5), 1);
        due(8, "up and left", x.sees(12, 0), 1);
        due(8, "up and right", x.sees(5, 4), 1);
        due(8, "up and right past a wall", x.sees(10, 4), 0);
        int[][] ends = {{0, 8}, {8, 0}, {2, 6}, {6, 2}};
        for (int[] e : ends)
            for (int c = 0; c < 9; c++) {
                if (c == e[0] || c == e[1]) continue;
                WatchedHalls y = new WatchedHalls();
                y.hall(3, 3);
                y.law(1);
                y.cell(c, GLASS);
                due(8, "glass in " + c, y.sees(e[0], e[1]), 1);
                y.cell(c, CURTAIN);
                due(8, "a curtain in " + c, y.sees(e[0], e[1]), 0);
            }
    }

    private static void seesStraight() {
        // from 0 to 6 in a hall of 4: middles 2 and 1 apart, through cells 1 and 5
        int[] through = {1, 5};
        int[] beside = {2, 4};
        for (int kind = WALL; kind <= CURTAIN; kind++) {
            for (int c : through) {
                WatchedHalls x = new WatchedHalls();
                x.hall(4, 3);
                due(8, "free", x.sees(0, 6), 1);
                x.cell(c, kind);
                due(8, "through " + c + " of kind " + kind, x.sees(0, 6), kind == GLASS ? 1 : 0);
                due(8, "and back", x.sees(6, 0), kind == GLASS ? 1 : 0);
            }
            for (int c : beside) {
                WatchedHalls x = new WatchedHalls();
                x.hall(4, 3);
                x.cell(c, kind);
                due(8, "beside " + c + " of kind " + kind, x.sees(0, 6), 1);
            }
        }
        // 3 by 2 steps: 0,0 1,0 1,1 2,1 2,2 3,2 (y is 1/2 + 2/3 (x - 1/2))
        WatchedHalls x = drawn(
            "..##",
            "#..#",
            "##..");
        due(8, "3 by 2", x.sees(0, 11), 1);
        int[] way = {1, 5, 6, 10};
        for (int c : way) {
            x.cell(c, WALL);
            due(8, "3 by 2 through " + c, x.sees(0, 11), 0);
            x.cell(c, FLOOR);
        }
    }

    private static void seesThroughCorners() {
        // 1 and 2 are touched at the corner between 0 and 3, in a hall of 2
        int[] kinds = {FLOOR, WALL, GLASS, CURTAIN};
        for (int a : kinds)
            for (int b : kinds) {
                WatchedHalls x = new WatchedHalls();
                x.hall(2, 2);
                x.cell(1, a);
                x.cell(2, b);
                boolean shut = (a == WALL || a == CURTAIN) && (b == WALL || b == CURTAIN);
                due(8, "corner of " + a + ", " + b, x.sees(0, 3), shut ? 0 : 1);
                due(8, "and back", x.sees(3, 0), shut ? 0 : 1);
                WatchedHalls y = new WatchedHalls();
                y.hall(2, 2);
                y.cell(0, a);
                y.cell(3, b);
                due(8, "other corner of " + a + ", " + b, y.sees(1, 2), shut ? 0 : 1);
            }
        // two walls at two corners, one each: free
        due(8, "one wall a corner", drawn(".#.", "..#", "...").sees(0, 8), 1);
        due(8, "walls on both sides", drawn(".#.", "...", ".#.").sees(0, 8), 1);
        due(8, "second corner shut", drawn("...", "..#", ".#.").sees(0, 8), 0);
        // 3 by 1 steps: through cells 1 and 6, and between them through the corner that 2 and 5 touch
        WatchedHalls x = drawn("..#.", ".#..");
        due(8, "3 by 1 with both touched shut", x.sees(0, 7), 0);
        x.cell(2, FLOOR);
        due(8, "3 by 1 with one touched free", x.sees(0, 7), 1);
        x.cell(1, WALL);
        due(8, "3 by 1 through a wall", x.sees(0, 7), 0);
    }

    private static void seesInRange() {
        WatchedHalls x = new WatchedHalls();
        x.hall(8, 8);
        for (int range = 1; range <= 8; range++) {
            x.range(range);
            for (int c = 1; c < 8; c++) {
                due(8, "row " + c, x.sees(0, c), c <= range ? 1 : 0);
                due(8, "column " + c, x.sees(0, 8 * c), c <= range ? 1 : 0);
                due(8, "aslant " + c, x.sees(0, 9 * c), c <= range ? 1 : 0);
                due(8, "one down " + c, x.sees(8, c), c <= range ? 1 : 0);
            }
        }
    }

    private static void viewAndBest() {
        WatchedHalls x = new WatchedHalls();
        due(9, "all", x.view(12), 25);
        x.law(0);
        due(9, "lines", x.view(12), 9);
        due(9, "lines at a corner", x.view(0), 9);
        x.range(1);
        due(9, "near lines", x.view(12), 5);
        due(9, "near lines at a corner", x.view(0), 3);
        due(10, "first of the inner ones", x.best(), 6);
        x.cell(6, WALL);
        due(9, "wall", x.view(6), 0);
        due(10, "8, as 7 has lost one", x.best(), 8);
        x.cell(1, GLASS);
        due(9, "glass", x.view(1), 0);
        x.cell(2, CURTAIN);
        due(9, "curtain", x.view(2), 1);
        due(9, "UNKNOWN", x.view(25), UNKNOWN);
        due(9, "UNKNOWN", x.view(-1), UNKNOWN);
        WatchedHalls like = new WatchedHalls();
        due(10, "of like ones the least", like.best(), 0);
        like.cell(0, GLASS);
        due(10, "not glass", like.best(), 1);
        WatchedHalls shut = drawn("#=", "#%");
        due(10, "a curtain alone", shut.best(), 3);
        shut.cell(3, WALL);
        due(10, "there is none", shut.best(), NONE);
    }

    private static void picture() {
        WatchedHalls x = drawn("..=", "#%.");
        due(11, "first", x.picture(0, 3), 0);
        due(11, "same cell once more", x.picture(0, 3), 1);
        due(11, "UNKNOWN", x.picture(6, 0), UNKNOWN);
        due(11, "UNKNOWN ahead of OUTSIDE", x.picture(-1, 9), UNKNOWN);
        due(11, "OUTSIDE", x.picture(1, 4), OUTSIDE);
        due(11, "OUTSIDE", x.picture(1, -1), OUTSIDE);
        due(11, "OUTSIDE ahead of STATE", x.picture(2, 4), OUTSIDE);
        due(11, "glass", x.picture(2, 0), STATE);
        due(11, "wall", x.picture(3, 0), STATE);
        due(11, "curtain", x.picture(4, 0), STATE);
        for (int n = 2; n < 8; n++) due(11, "number", x.picture(5, n % 4), n);
        due(11, "FULL", x.picture(1, 0), FULL);
        due(11, "STATE ahead of FULL", x.picture(2, 0), STATE);
        due(11, "still 8", x.count(2), 8);
    }

    private static void about() {
        WatchedHalls x = new WatchedHalls();
        due(12, "UNKNOWN", x.about(0, 0), UNKNOWN);
        x.picture(7, 2);
        x.picture(24, 3);
        due(12, "cell", x.about(0, 0), 7);
        due(12, "facing", x.about(0, 1), 2);
        due(12, "cell", x.about(1, 0), 24);
        due(12, "facing", x.about(1, 1), 3);
        due(12, "UNKNOWN", x.about(2, 0), UNKNOWN);
        due(12, "UNKNOWN", x.about(-1, 0), UNKNOWN);
        due(12, "UNKNOWN ahead of OUTSIDE", x.about(2, 2), UNKNOWN);
        due(12, "OUTSIDE", x.about(1, 2), OUTSIDE);
        due(12, "OUTSIDE", x.about(1, -1), OUTSIDE);
        x.cell(7, WALL);
        due(12, "whatever it becomes", x.about(0, 0), 7);
    }

    private static void seenAndFrom() {
        WatchedHalls x = new WatchedHalls();
        for (int f = 0; f < 4; f++) x.picture(12, f);
        int[] right = {1, 1, 0, 1};
        int[] below = {1, 1, 1, 0};
        int[] left = {0, 1, 1, 1};
        int[] above = {1, 0, 1, 1};
        for (int f = 0; f < 4; f++) {
            due(13, "right", x.seen(f, 13), right[f]);
            due(13, "below", x.seen(f, 17), below[f]);
            due(13, "left", x.seen(f, 11), left[f]);
            due(13, "above", x.seen(f, 7), above[f]);
            due(13, "itself", x.seen(f, 12), 1);
        }
        due(14, "right and above", x.from(8), 1 + 8);
        due(14, "right and below", x.from(18), 1 + 2);
        due(14, "left and below", x.from(16), 2 + 4);
        due(14, "left and above", x.from(6), 4 + 8);
        due(14, "right", x.from(14), 1 + 2 + 8);
        due(14, "itself", x.from(12), 15);
        x.cell(7, CURTAIN);
        due(13, "from a curtain", x.seen(0, 7), 0);
        due(13, "past a curtain", x.seen(0, 2), 0);
        due(14, "past a curtain", x.from(2), 0);
        x.cell(12, CURTAIN);
        due(14, "a picture in a curtain is seen from there alone", x.from(12), 15);
        due(14, "not from beside", x.from(13), 0);
        x.cell(12, WALL);
        due(14, "a picture in a wall", x.from(12), 0);
        due(13, "UNKNOWN", x.seen(4, 0), UNKNOWN);
        due(13, "UNKNOWN", x.seen(-1, 0), UNKNOWN);
        due(13, "UNKNOWN", x.seen(0, 25), UNKNOWN);
        due(14, "UNKNOWN", x.from(25), UNKNOWN);
        due(14, "UNKNOWN", x.from(-1), UNKNOWN);
        due(14, "no pictures", new WatchedHalls().from(0), 0);
        WatchedHalls eight = new WatchedHalls();
        for (int n = 0; n < 8; n++) eight.picture(n, 1);
        due(14, "all eight", eight.from(24), 255);
    }

    private static void fewestAndPost() {
        WatchedHalls x = new WatchedHalls();
        due(15, "no pictures", x.fewest(), 0);
        due(16, "no pictures", x.post(0), NONE);
        x.picture(12, 0);
        due(15, "one", x.fewest(), 1);
        due(16, "the least that is not behind", x.post(0), 2);
        due(16, "no more", x.post(1), NONE);
        due(16, "less than none", x.post(-1), NONE);
        due(16, "MAX", x.post(MAX), NONE);
        due(16, "MIN", x.post(MIN), NONE);
        x.picture(12, 2);
        due(15, "one for both", x.fewest(), 1);
        due(16, "in its column", x.post(0), 2);
        // each picture in its own row between walls
        WatchedHalls rows = drawn("....", "####", "....", "####", "....");
        rows.picture(3, 2);
        rows.picture(10, 2);
        rows.picture(17, 2);
        due(15, "three", rows.fewest(), 3);
        due(16, "post 0", rows.post(0), 0);
        due(16, "post 1", rows.post(1), 8);
        due(16, "post 2", rows.post(2), 16);
        due(16, "post 3", rows.post(3), NONE);
        rows.cell(10, WALL);
        due(15, "one is seen from nowhere", rows.fewest(), NONE);
        due(16, "no posts then", rows.post(0), NONE);
        // 1 and 7 do, and so do 3 and 5: the first by cells in order
        WatchedHalls lines = new WatchedHalls();
        lines.hall(3, 3);
        lines.law(0);
        lines.range(1);
        lines.picture(0, 0);
        lines.picture(2, 2);
        lines.picture(6, 0);
        lines.picture(8, 2);
        due(15, "corners", lines.fewest(), 2);
        due(16, "above", lines.post(0), 1);
        due(16, "below", lines.post(1), 7);
        WatchedHalls asked = new WatchedHalls();
        asked.picture(24, 1);
        due(16, "asked for at once", asked.post(0), 20);
        // each alone in a curtain
        WatchedHalls eight = new WatchedHalls();
        eight.hall(8, 2);
        for (int n = 0; n < 8; n++) eight.picture(n, 1);
        for (int n = 0; n < 8; n++) eight.cell(n, CURTAIN);
        due(15, "eight", eight.fewest(), 8);
        for (int n = 0; n < 8; n++) due(16, "curtain", eight.post(n), n);
        due(16, "ninth", eight.post(8), NONE);
    }

    private static void tour() {
        WatchedHalls x = new WatchedHalls();
        due(17, "no pictures", x.tour(7), 0);
        due(18, "no steps", x.tourStep(7, 0), NONE);
        x.picture(12, 0);
        due(17, "seen from where it begins", x.tour(12), 0);
        due(17, "behind: to its column and back", x.tour(10), 4);
        dueOrder(18, "right, right, left, left", tourOf(x, 10), 0, 0, 2, 2);
        due(18, "no step 4", x.tourStep(10, 4), NONE);
        due(18, "no step -1", x.tourStep(10, -1), NONE);
        due(18, "no step MAX", x.tourStep(10, MAX), NONE);
        due(17, "UNKNOWN", x.tour(25), UNKNOWN);
        due(18, "UNKNOWN", x.tourStep(-1, 0), UNKNOWN);
        x.cell(3, GLASS);
        due(17, "STATE", x.tour(3), STATE);
        due(18, "STATE", x.tourStep(3, 99), STATE);
        x.cell(12, CURTAIN);
        due(17, "into the curtain", x.tour(10), 4);
        due(17, "from a curtain", x.tour(12), 0);
        x.cell(12, WALL);
        due(17, "seen from nowhere", x.tour(10), NONE);
        due(18, "seen from nowhere", x.tourStep(10, 0), NONE);
        WatchedHalls cut = drawn(".#.", ".#.");
        cut.picture(2, 0);
        due(17, "cut off", cut.tour(0), NONE);
        due(17, "not cut off", cut.tour(5), 0);
    }

    private static void tourOrder() {
        WatchedHalls x = new WatchedHalls();
        x.hall(3, 3);
        x.range(1);
        x.law(0);
        x.picture(0, 2);
        x.cell(0, CURTAIN);
        // of like tours the one of least directions: left ahead of up, and back right ahead of down
        dueOrder(18, "from the far corner", tourOf(x, 8), 2, 2, 3, 3, 0, 0, 1, 1);
        x.picture(2, 0);
        x.cell(2, CURTAIN);
        dueOrder(18, "past both", tourOf(x, 4), 0, 3, 2, 2, 0, 1);
        x.picture(6, 0);
        x.cell(6, CURTAIN);
        x.picture(8, 0);
        x.cell(8, CURTAIN);
        dueOrder(18, "all four corners", tourOf(x, 1), 0, 1, 1, 2, 2, 3, 3, 0);
        WatchedHalls wide = new WatchedHalls();
        wide.hall(8, 8);
        int[] corners = {0, 7, 56, 63};
        for (int c : corners) {
            wide.picture(c, 0);
            wide.cell(c, CURTAIN);
        }
        due(17, "round the hall", wide.tour(0), 28);
        for (int i = 0; i < 28; i++) due(18, "round the hall", wide.tourStep(0, i), i / 7);
        due(17, "from the middle: 6 to a corner, 21 past them, 7 back", wide.tour(27), 34);
    }

    private static void step() {
        WatchedHalls x = drawn(
            "..=.",
            ".%#.",
            "....");
        due(19, "UNKNOWN watcher", x.step(4, 0), UNKNOWN);
        due(19, "UNKNOWN watcher", x.step(-1, 0), UNKNOWN);
        due(19, "UNKNOWN cell", x.step(0, 12), UNKNOWN);
        due(19, "UNKNOWN cell", x.step(0, -1), UNKNOWN);
        due(19, "glass", x.step(0, 2), STATE);
        due(19, "wall", x.step(0, 6), STATE);
        due(19, "first", x.step(0, 4), 1);
        due(19, "curtain", x.step(0, 5), 2);
        due(19, "same", x.step(0, 5), 3);
        due(19, "not beside", x.step(0, 3), STATE);
        due(19, "aslant", x.step(0, 8), STATE);
        due(19, "end of a row", x.step(1, 3), 1);
        due(19, "beginning of the next", x.step(1, 4), STATE);
        due(19, "down", x.step(0, 9), 4);
        due(19, "right", x.step(0, 10), 5);
        due(19, "left", x.step(0, 9), 6);
        due(19, "STATE ahead of FULL", x.step(0, 3), STATE);
        due(19, "FULL", x.step(0, 9), FULL);
        due(19, "FULL", x.step(0, 8), FULL);
        x.step(2, 0);
        x.cell(0, WALL);
        due(19, "beside a cell on which one may not stand now", x.step(2, 1), STATE);
        due(19, "that cell itself", x.step(2, 0), STATE);
        due(19, "watcher 3", x.step(3, 11), 1);
    }

    private static void wipe() {
        WatchedHalls x = new WatchedHalls();
        due(20, "none", x.wipe(0), 0);
        go(x, 0, 0, 1, 2);
        x.shift(0, 2);
        go(x, 1, 24);
        due(20, "had 3", x.wipe(0), 3);
        due(20, "has none", x.wipe(0), 0);
        due(20, "where", x.where(0, 0), NONE);
        due(20, "the other one stays", x.where(1, 0), 24);
        due(20, "anew anywhere", x.step(0, 20), 1);
        due(20, "the shift stays", x.shift(0, 0), 2);
        due(20, "UNKNOWN", x.wipe(4), UNKNOWN);
        due(20, "UNKNOWN", x.wipe(-1), UNKNOWN);
    }

    private static void closed() {
        WatchedHalls x = new WatchedHalls();
        due(21, "none", x.closed(3), 1);
        go(x, 0, 0);
        due(21, "one", x.closed(0), 1);
        x.step(0, 1);
        due(21, "two", x.closed(0), 1);
        x.step(0, 2);
        due(21, "three in a line", x.closed(0), 0);
        x.step(0, 7);
        due(21, "as a knight", x.closed(0), 0);
        x.step(0, 6);
        due(21, "aslant", x.closed(0), 0);
        x.step(0, 5);
        due(21, "a box", x.closed(0), 1);
        x.cell(5, GLASS);
        due(21, "no neighbour now", x.closed(0), 0);
        x.cell(5, CURTAIN);
        due(21, "a neighbour again", x.closed(0), 1);
        x.cell(0, WALL);
        due(21, "nor the first", x.closed(0), 0);
        go(x, 1, 12, 13, 12);
        x.cell(12, WALL);
        due(21, "the same, whatever it is", x.closed(1), 1);
        due(21, "UNKNOWN", x.closed(4), UNKNOWN);
        due(21, "UNKNOWN", x.closed(-1), UNKNOWN);
    }

    private static void shiftAndWhere() {
        WatchedHalls x = new WatchedHalls();
        due(22, "was 0", x.shift(0, 5), 0);
        due(22, "was 5", x.shift(0, 1), 5);
        due(22, "OUTSIDE", x.shift(0, 6), OUTSIDE);
        due(22, "OUTSIDE", x.shift(0, -1), OUTSIDE);
        due(22, "UNKNOWN ahead of OUTSIDE", x.shift(4, 6), UNKNOWN);
        due(22, "UNKNOWN", x.shift(-1, 0), UNKNOWN);
        due(23, "no round", x.where(0, 0), NONE);
        due(23, "OUTSIDE ahead of no round", x.where(0, 10000), OUTSIDE);
        go(x, 0, 0, 1, 2);
        due(23, "time 0, shift 1", x.where(0, 0), 1);
        due(23, "time 1", x.where(0, 1), 2);
        due(23, "time 2", x.where(0, 2), 0);
        due(23, "time 9999", x.where(0, 9999), 1);
        due(22, "was 1", x.shift(0, 5), 1);
        due(23, "a shift above the length", x.where(0, 0), 2);
        due(23, "time 9999", x.where(0, 9999), 2);
        due(23, "OUTSIDE", x.where(0, -1), OUTSIDE);
        due(23, "UNKNOWN", x.where(4, 0), UNKNOWN);
        due(23, "UNKNOWN ahead of OUTSIDE", x.where(-1, -1), UNKNOWN);
        x.cell(2, WALL);
        due(23, "in a wall", x.where(0, 0), 2);
    }

    private static void watched() {
        WatchedHalls x = drawn("....", ".#%.");
        due(24, "nobody", x.watched(0, 0), 0);
        go(x, 1, 0, 4);
        due(24, "row", x.watched(3, 0), 1);
        due(24, "itself", x.watched(0, 0), 1);
        due(24, "behind the wall", x.watched(7, 1), 0);
        due(24, "its row ends", x.watched(3, 1), 0);
        due(24, "time 9998", x.watched(3, 9998), 1);
        due(24, "time 9999", x.watched(3, 9999), 0);
        due(24, "curtain", x.watched(6, 0), 0);
        go(x, 2, 6);
        due(24, "curtain from within", x.watched(6, 0), 1);
        x.shift(1, 1);
        due(24, "shifted", x.watched(3, 0), 0);
        x.cell(4, WALL);
        due(24, "he is in a wall", x.watched(0, 0), 0);
        due(24, "the wall itself", x.watched(4, 0), 0);
        WatchedHalls first = new WatchedHalls();
        go(first, 0, 0);
        due(24, "by watcher 0", first.watched(24, 0), 1);
        due(34, "by watcher 0", first.count(3), 1);
        WatchedHalls last = new WatchedHalls();
        go(last, 3, 0);
        due(24, "by watcher 3", last.watched(24, 0), 1);
        due(34, "by watcher 3", last.count(3), 1);
        due(24, "UNKNOWN", x.watched(8, 0), UNKNOWN);
        due(24, "UNKNOWN ahead of OUTSIDE", x.watched(-1, -1), UNKNOWN);
        due(24, "OUTSIDE", x.watched(0, -1), OUTSIDE);
        due(24, "OUTSIDE", x.watched(0, 10000), OUTSIDE);
    }

    private static void period() {
        WatchedHalls x = new WatchedHalls();
        due(25, "none", x.period(), 1);
        go(x, 0, 0, 0, 0, 0);
        due(25, "4", x.period(), 4);
        go(x, 1, 0, 0, 0, 0, 0, 0);
        due(25, "4 and 6", x.period(), 12);
        go(x, 2, 0, 0, 0, 0, 0);
        due(25, "4, 6 and 5", x.period(), 60);
        go(x, 3, 0);
        due(25, "and 1", x.period(), 60);
        x.wipe(0);
        due(25, "6 and 5", x.period(), 30);
        x.wipe(1);
        due(25, "5", x.period(), 5);
    }

    private static void gap() {
        WatchedHalls x = drawn("......", "######");
        x.range(1);
        x.picture(0, 0);
        due(26, "nobody", x.gap(0), NONE);
        go(x, 0, 2, 3);
        due(26, "never near", x.gap(0), NONE);
        x.wipe(0);
        go(x, 0, 0, 1, 2, 3, 2, 1);
        due(26, "times 2, 3, 4", x.gap(0), 3);
        x.shift(0, 3);
        due(26, "round the end", x.gap(0), 3);
        x.shift(0, 0);
        go(x, 1, 3, 2, 1);
        due(26, "and time 2 too, 5 too", x.gap(0), 2);
        go(x, 2, 1);
        due(26, "always", x.gap(0), 0);
        x.cell(1, WALL);
        due(26, "he sees nothing there: time 0 alone", x.gap(0), 5);
        x.cell(0, WALL);
        due(26, "the picture's own cell a wall", x.gap(0), NONE);
        due(26, "UNKNOWN", x.gap(1), UNKNOWN);
        due(26, "UNKNOWN", x.gap(-1), UNKNOWN);
        WatchedHalls behind = new WatchedHalls();
        behind.picture(12, 0);
        go(behind, 0, 10, 11, 12);
        due(26, "from behind it is not in sight", behind.gap(0), 2);
        // the picture is in a curtain, so each sees it only at the one time when he is there
        WatchedHalls far = drawn("......", "######");
        far.range(1);
        far.law(0);
        far.picture(0, 2);
        far.picture(5, 0);
        far.cell(0, CURTAIN);
        go(far, 0, 0, 1, 1, 1);
        go(far, 1, 0, 1, 1, 1, 1);
        due(26, "4 and 5: times 0, 4, 5, 8, 10, 12, 15, 16 of 20", far.gap(0), 3);
        due(26, "of the other never", far.gap(1), NONE);
    }

    private static void worst() {
        WatchedHalls x = drawn("......", "######");
        x.range(1);
        due(27, "no pictures", x.worst(), 0);
        x.picture(0, 0);
        due(27, "nobody", x.worst(), NONE);
        go(x, 0, 0, 1, 2, 3, 4);
        due(27, "one", x.worst(), 3);
        x.picture(2, 0);
        due(27, "the greater", x.worst(), 3);
        x.picture(5, 2);
        due(27, "three: the last is seen at one time of five", x.worst(), 4);
        x.range(2);
        due(27, "of range 2", x.worst(), 3);
        x.cell(5, WALL);
        due(27, "one is never in sight", x.worst(), NONE);
    }

    private static void arrange() {
        WatchedHalls x = drawn("......", "######");
        x.range(1);
        x.shift(3, 4);
        due(28, "no pictures, no rounds", x.arrange(), 0);
        due(28, "no round: 0", x.shift(3, 5), 0);
        x.picture(0, 0);
        due(28, "nobody", x.arrange(), NONE);
        due(28, "shift 3 set all the same", x.shift(3, 0), 0);
        // each is at the picture for two of four times
        go(x, 1, 0, 1, 2, 3);
        go(x, 2, 0, 1, 2, 3);
        x.shift(1, 3);
        x.shift(2, 3);
        due(28, "as it is", x.worst(), 2);
        due(28, "best", x.arrange(), 0);
        due(28, "worst is so now", x.worst(), 0);
        due(28, "shift 1", x.shift(1, 0), 0);
        due(28, "shift 2", x.shift(2, 2), 2);
        // shifts that make no difference become least
        WatchedHalls like = new WatchedHalls();
        like.picture(12, 0);
        go(like, 0, 13, 14, 13);
        like.shift(0, 5);
        like.shift(1, 5);
        due(28, "always in sight", like.arrange(), 0);
        due(28, "least", like.shift(0, 0), 0);
        due(28, "least", like.shift(1, 0), 0);
        // NONE whatever the shifts are: all least
        WatchedHalls never = drawn("..#..", "..#..");
        never.picture(0, 0);
        never.picture(4, 0);
        go(never, 0, 0, 1);
        go(never, 1, 0, 1, 6);
        never.shift(1, 2);
        due(28, "of one NONE", never.arrange(), NONE);
        due(28, "least", never.shift(1, 0), 0);
        // of like ones the least of watcher 1, then of 2: three of 3, each with one time of three
        WatchedHalls three = drawn("....", "####");
        three.range(1);
        three.law(0);
        three.picture(0, 2);
        three.cell(0, CURTAIN);
        go(three, 0, 0, 1, 1);
        go(three, 1, 0, 1, 1);
        go(three, 3, 0, 1, 1);
        due(28, "three in turn", three.arrange(), 0);
        due(28, "shift 0", three.shift(0, 0), 0);
        due(28, "shift 1", three.shift(1, 0), 1);
        due(28, "shift 3", three.shift(3, 0), 2);
        // shifts 1 and 2 of watcher 1 are like, and watcher 3 never sees it
        three.wipe(3);
        go(three, 3, 2, 2);
        three.shift(3, 1);
        due(28, "two of three times", three.arrange(), 1);
        due(28, "the lesser", three.shift(1, 0), 1);
        due(28, "least", three.shift(3, 0), 0);
        // the first with a round is not watcher 0
        three.wipe(0);
        three.shift(0, 3);
        three.shift(1, 2);
        due(28, "one of three times", three.arrange(), 2);
        due(28, "no round", three.shift(0, 0), 0);
        due(28, "least", three.shift(1, 0), 0);
    }

    private static void theft() {
        WatchedHalls x = new WatchedHalls();
        due(29, "UNKNOWN picture", x.theft(0, 0, 0), UNKNOWN);
        x.picture(12, 0);
        due(29, "where it hangs", x.theft(0, 12, 0), 0);
        due(29, "there and back", x.theft(0, 0, 0), 8);
        due(29, "at 9999", x.theft(0, 0, 9999), 8);
        due(29, "UNKNOWN cell", x.theft(0, 25, 0), UNKNOWN);
        due(29, "UNKNOWN ahead of OUTSIDE", x.theft(1, 0, -1), UNKNOWN);
        due(29, "OUTSIDE", x.theft(0, 0, -1), OUTSIDE);
        due(29, "OUTSIDE", x.theft(0, 0, 10000), OUTSIDE);
        x.cell(0, WALL);
        due(29, "from a wall", x.theft(0, 0, 0), NONE);
        x.cell(0, CURTAIN);
        due(29, "from a curtain", x.theft(0, 0, 0), 8);
        x.cell(12, GLASS);
        due(29, "the picture in glass", x.theft(0, 0, 0), NONE);
        x.cell(12, CURTAIN);
        due(29, "in a curtain", x.theft(0, 0, 0), 8);
        x.cell(12, FLOOR);
        go(x, 0, 12);
        due(29, "watched for ever", x.theft(0, 0, 0), NONE);
        x.cell(12, CURTAIN);
        due(29, "the watcher in the curtain too", x.theft(0, 0, 0), NONE);
        x.wipe(0);
        x.step(0, 13);
        due(29, "curtains hide", x.theft(0, 12, 0), 0);
        // the curtain hides 5, 6, 10 and 11 from 13, but not 1 and 7
        dueOrder(30, "behind the curtain", theftOf(x, 0, 0, 0), 1, 0, 1, 0, 2, 2, 3, 3);
        x.cell(5, WALL);
        due(29, "but not the way by 1", x.theft(0, 0, 0), NONE);
        WatchedHalls wall = drawn("..#", "#..");
        wall.picture(5, 0);
        due(29, "past walls", wall.theft(0, 0, 0), 6);
        wall.cell(4, WALL);
        due(29, "shut", wall.theft(0, 0, 0), NONE);
    }

    private static void theftSteps() {
        WatchedHalls x = new WatchedHalls();
        x.picture(12, 0);
        // of like ones the first by steps
        dueOrder(30, "from 6", theftOf(x, 0, 6, 3), 0, 1, 2, 3);
        dueOrder(30, "from 18", theftOf(x, 0, 18, 0), 2, 3, 0, 1);
        due(30, "no step 4", x.theftStep(0, 6, 0, 4), NONE);
        due(30, "no step -1", x.theftStep(0, 6, 0, -1), NONE);
        due(30, "no step MAX", x.theftStep(0, 6, 0, MAX), NONE);
        due(30, "none from where it hangs", x.theftStep(0, 12, 0, 0), NONE);
        due(30, "UNKNOWN picture", x.theftStep(1, 6, 0, 0), UNKNOWN);
        due(30, "UNKNOWN cell", x.theftStep(0, -1, 0, 0), UNKNOWN);
        due(30, "OUTSIDE", x.theftStep(0, 6, 10000, 0), OUTSIDE);
        due(30, "OUTSIDE", x.theftStep(0, 6, -1, 99), OUTSIDE);
        x.cell(12, WALL);
        due(30, "no theft", x.theftStep(0, 6, 0, 0), NONE);
    }

    private static void theftWaits() {
        // a watcher who goes between a curtain, where he sees nothing else, and the row
        WatchedHalls x = drawn(
            "%..",
            "###");
        x.picture(2, 0);
        x.law(0);
        go(x, 0, 0, 0, 0, 0, 1, 1);
        // thief from 1: times 0 to 3 are free there
        due(29, "watched where it begins", x.theft(0, 1, 4), NONE);
        dueOrder(30, "at 0", theftOf(x, 0, 1, 0), 0, 2);
        dueOrder(30, "at 1", theftOf(x, 0, 1, 1), 0, 2);
        // he would be seen at 4, so he waits, and hides in the curtain while the watcher is out of it
        dueOrder(30, "at 2", theftOf(x, 0, 1, 2), 4, 2, 4, 0, 0, 2);
        dueOrder(30, "at 3", theftOf(x, 0, 1, 3), 2, 4, 0, 0, 2);
        due(29, "at 6 as at 0", x.theft(0, 1, 6), 2);
        due(31, "times 0 to 3", x.hours(0, 1), 4);
        due(31, "the curtain while he is out of it", x.hours(0, 0), 2);
        // from a hiding place behind: he waits, and comes last by steps
        WatchedHalls y = drawn(
            ".#.",
            "%..",
            ".##");
        y.picture(4, 0);
        y.law(0);
        go(y, 0, 2, 5, 5, 2);
        // 5 sees 4; 2 does not: times 1, 2 of each four are watched in 4; 3, 0 are free
        // to go down and up is ahead of waiting twice
        dueOrder(30, "from the curtain at 0", theftOf(y, 0, 3, 0), 1, 3, 0, 2);
        dueOrder(30, "at 1", theftOf(y, 0, 3, 1), 4, 0, 2);
        dueOrder(30, "at 2", theftOf(y, 0, 3, 2), 0, 2);
        dueOrder(30, "at 3", theftOf(y, 0, 3, 3), 0, 2);
        // he moves first and waits in the curtain
        dueOrder(30, "from above at 0", theftOf(y, 0, 0, 0), 1, 4, 0, 2, 3);
        due(31, "always", y.hours(0, 3), 4);
        y.shift(0, 1);
        dueOrder(30, "shifted", theftOf(y, 0, 3, 0), 4, 0, 2);
    }

    private static void hours() {
        WatchedHalls x = new WatchedHalls();
        due(31, "UNKNOWN picture", x.hours(0, 0), UNKNOWN);
        x.picture(12, 0);
        due(31, "nobody", x.hours(0, 0), 1);
        due(31, "where it hangs", x.hours(0, 12), 1);
        due(31, "UNKNOWN cell", x.hours(0, 25), UNKNOWN);
        due(31, "UNKNOWN cell", x.hours(0, -1), UNKNOWN);
        x.cell(0, GLASS);
        due(31, "from glass", x.hours(0, 0), 0);
        WatchedHalls cut = drawn(".#.", ".#.");
        cut.picture(2, 0);
        due(31, "cut off", cut.hours(0, 0), 0);
        due(31, "on its side", cut.hours(0, 5), 1);
        x.range(1);
        go(x, 0, 4, 4, 9, 9, 14);
        // 14 is two from 12, and none of them sees 10
        due(31, "all five", x.hours(0, 10), 5);
        due(31, "13 is seen from 9 and 14", x.hours(0, 13), 2);
        go(x, 1, 24, 24);
        due(31, "of ten", x.hours(0, 10), 10);
        due(31, "of ten", x.hours(0, 13), 4);
    }

    private static void turn() {
        WatchedHalls x = drawn(
            ".#=",
            "%..");
        for (int f = 0; f < 4; f++) x.picture(5, f);
        go(x, 0, 4, 5);
        x.shift(0, 1);
        x.law(1);
        x.range(2);
        due(32, "W then", x.turn(), 2);
        // %.
        // .#
        // .=
        int[] kinds = {CURTAIN, FLOOR, FLOOR, WALL, FLOOR, GLASS};
        for (int c = 0; c < 6; c++) due(32, "kind " + c, x.kind(c), kinds[c]);
        due(32, "W", x.count(0), 2);
        due(32, "H", x.count(1), 3);
        for (int f = 0; f < 4; f++) {
            due(32, "picture", x.about(f, 0), 4);
            due(32, "facing", x.about(f, 1), (f + 1) % 4);
        }
        due(32, "round, shifted as before", x.where(0, 0), 4);
        due(32, "round", x.where(0, 1), 2);
        due(32, "shift", x.shift(0, 1), 1);
        due(32, "law", x.law(1), 1);
        due(32, "range", x.range(2), 2);
        due(32, "as far as before", x.far(0, 4), 2);
        due(32, "beside", x.far(2, 4), 1);
        due(32, "cells are as many", x.kind(6), UNKNOWN);
        due(32, "again", x.turn(), 3);
        x.turn();
        x.turn();
        int[] first = {FLOOR, WALL, GLASS, CURTAIN, FLOOR, FLOOR};
        for (int c = 0; c < 6; c++) due(32, "after four", x.kind(c), first[c]);
        due(32, "after four", x.about(3, 1), 3);
        due(32, "after four", x.about(3, 0), 5);
        due(32, "after four", x.where(0, 1), 4);
        WatchedHalls long8 = new WatchedHalls();
        long8.hall(8, 2);
        due(32, "2 by 8", long8.turn(), 2);
        due(32, "2 by 8", long8.far(0, 15), 8);
        due(32, "2 by 8", long8.view(0), 16);
    }

    private static void mirror() {
        WatchedHalls x = drawn(
            ".#=",
            "%..");
        for (int f = 0; f < 4; f++) x.picture(5, f);
        go(x, 0, 4, 5);
        x.shift(0, 1);
        due(33, "0, 2, 3 and 5 change", x.mirror(), 4);
        int[] kinds = {GLASS, WALL, FLOOR, FLOOR, FLOOR, CURTAIN};
        int[] facings = {2, 1, 0, 3};
        for (int c = 0; c < 6; c++) due(33, "kind " + c, x.kind(c), kinds[c]);
        for (int f = 0; f < 4; f++) {
            due(33, "picture", x.about(f, 0), 3);
            due(33, "facing", x.about(f, 1), facings[f]);
        }
        due(33, "round", x.where(0, 0), 3);
        due(33, "round", x.where(0, 1), 4);
        due(33, "shift", x.shift(0, 1), 1);
        due(33, "W", x.count(0), 3);
        due(33, "H", x.count(1), 2);
        due(33, "stand", x.count(4), 4);
        due(33, "back", x.mirror(), 4);
        due(33, "back", x.about(0, 1), 0);
        due(33, "back", x.kind(3), CURTAIN);
        due(33, "all floor", new WatchedHalls().mirror(), 0);
        due(33, "like on both sides", drawn("#.#", "=%=").mirror(), 0);
    }

    private static void count() {
        WatchedHalls x = drawn("..#=", "%...");
        x.picture(0, 0);
        x.picture(5, 1);
        go(x, 1, 6);
        go(x, 3, 6, 7);
        due(34, "W", x.count(0), 4);
        due(34, "H", x.count(1), 2);
        due(34, "pictures", x.count(2), 2);
        due(34, "rounds", x.count(3), 2);
        due(34, "stand", x.count(4), 6);
        x.wipe(3);
        due(34, "rounds", x.count(3), 1);
        x.cell(6, WALL);
        due(34, "a round in a wall is a round", x.count(3), 1);
        due(34, "stand", x.count(4), 5);
        due(34, "OUTSIDE", x.count(5), OUTSIDE);
        due(34, "OUTSIDE", x.count(-1), OUTSIDE);
        due(34, "OUTSIDE", x.count(MAX), OUTSIDE);
    }

    private static void refusedChangesNothing() {
        WatchedHalls x = new WatchedHalls();
        x.picture(7, 1);
        go(x, 2, 7, 8);
        x.shift(2, 3);
        x.law(1);
        x.range(5);
        x.hall(9, 2);
        x.cell(25, 1);
        x.cell(7, 4);
        x.law(3);
        x.range(0);
        x.picture(8, 4);
        x.step(2, 20);
        x.step(4, 7);
        x.wipe(4);
        x.shift(2, 6);
        x.shift(-1, 0);
        due(2, "W stays", x.count(0), 5);
        due(3, "kind stays", x.kind(7), FLOOR);
        due(5, "law stays", x.law(1), 1);
        due(6, "range stays", x.range(5), 5);
        due(11, "pictures stay", x.count(2), 1);
        due(19, "round stays", x.period(), 2);
        due(22, "shift stays", x.shift(2, 3), 3);
    }
}
