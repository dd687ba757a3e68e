/**
 * Each sentence of the document that names a boundary case has a test of its own here, by its words:
 * the least and the greatest beside what is just too small and just too large, what is empty, what is
 * full, what wraps around. (What is refused is in RefusalTests.)
 */
public final class BoundaryTests {
    private static final int UNKNOWN = Tried.UNKNOWN, OUTSIDE = Tried.OUTSIDE, STATE = Tried.STATE;
    private static final int FULL = Tried.FULL, NONE = Tried.NONE;
    private static final int FLOOR = Tried.FLOOR, WALL = Tried.WALL, GLASS = Tried.GLASS, CURTAIN = Tried.CURTAIN;
    private static final int[][] HALLS = {{2, 2}, {2, 8}, {8, 2}, {8, 8}, {3, 5}, {5, 5}};

    public static void main(String[] args) throws Exception {
        object();
        hallTerms();
        sightTerms();
        pictureTerms();
        fewestTerms();
        tourTerms();
        watcherTerms();
        gapTerms();
        shiftTerms();
        theftTerms();
        turnTerms();
        Tried.end("BoundaryTests");
    }

    private static boolean stands(int kind) {
        return kind == FLOOR || kind == CURTAIN;
    }

    private static boolean clear(int kind) {
        return kind == FLOOR || kind == GLASS;
    }

    private static int yes(boolean is) {
        return is ? 1 : 0;
    }

    // ---- the object

    private static void object() {
        callsOfChange();
        callsOfSearch();
        callsOfTurns();
        firstHall();
    }

    private static void callsOfChange() {
        Tried.by("An object is used for at most 512 calls after it has been made");
        WatchedHalls x = new WatchedHalls();
        for (int n = 1; n < 512; n++) Tried.due("call " + n, x.cell(n % 25, n % 4), n <= 25 ? 0 : (n - 25) % 4);
        Tried.due("call 512", x.kind(511 % 25), 511 % 4);
        WatchedHalls halls = new WatchedHalls();
        for (int n = 0; n < 512; n++) Tried.due("hall " + n, halls.hall(2 + n % 7, 2 + n % 5), (2 + n % 7) * (2 + n % 5));
    }

    private static void callsOfSearch() {
        Tried.by("An object is used for at most 512 calls after it has been made");
        WatchedHalls x = Tried.open(8, 8);
        x.range(1);
        for (int n = 0; n < 8; n++) x.picture(n % 2 * 7 + n / 2 * 16, 0);
        int steps = x.tour(0);
        int[] gone = new int[4];
        for (int n = 0; n < 501; n++) {
            int direction = x.tourStep(0, n);
            Tried.due("step " + n, yes(direction >= 0 && direction < 4), yes(n < steps));
            if (direction >= 0) gone[direction]++;
        }
        Tried.due("back in x", gone[0], gone[2]);
        Tried.due("back in y", gone[1], gone[3]);
        WatchedHalls y = Tried.open(8, 8);
        y.picture(63, 0);
        for (int n = 0; n < 510; n++) Tried.due("theft " + n, y.theft(0, 0, n), 28);
    }

    private static void callsOfTurns() {
        Tried.by("An object is used for at most 512 calls after it has been made");
        WatchedHalls x = Tried.drawn("#..", "...");
        for (int n = 1; n < 500; n++) Tried.due("turn " + n, x.turn(), n % 2 == 1 ? 2 : 3);
        // as behind three: the corner 0, 0 has gone to 1, 0, then 2, 1, then 0, 2
        Tried.due("behind 499 turns", x.kind(4), WALL);
        WatchedHalls y = Tried.drawn("#..", "...");
        for (int n = 1; n < 510; n++) Tried.due("mirror " + n, y.mirror(), 2);
        Tried.due("behind 509 mirrors", y.kind(2), WALL);
    }

    private static void firstHall() {
        Tried.by("5 by 5 CELLS of FLOOR, no PICTURES, no ROUNDS.");
        WatchedHalls x = new WatchedHalls();
        Tried.due("cell -1", x.kind(-1), UNKNOWN);
        for (int c = 0; c < 25; c++) Tried.due("cell " + c, x.kind(c), FLOOR);
        Tried.due("cell 25", x.kind(25), UNKNOWN);
        Tried.due("W", x.count(0), 5);
        Tried.due("H", x.count(1), 5);
        Tried.due("pictures", x.count(2), 0);
        Tried.due("picture 0", x.about(0, 0), UNKNOWN);
        Tried.due("rounds", x.count(3), 0);
        Tried.due("one may stand everywhere", x.count(4), 25);
        Tried.due("its first picture", x.picture(24, 3), 0);
        Tried.due("its first step", x.step(3, 24), 1);
    }

    // ---- 1 the hall

    private static void hallTerms() {
        sides();
        cellNumbers();
        hallAnew();
        kinds();
        standing();
        noneStands();
        neighbours();
        blockedNeighbours();
        farthest();
        farNone();
    }

    private static void sides() {
        Tried.by("A HALL has W by H CELLS (2 to 8 each; 5 by 5 at first), CELL y W + x.");
        for (int w = 0; w <= 10; w++)
            for (int h = 0; h <= 10; h++) {
                boolean may = w >= 2 && w <= 8 && h >= 2 && h <= 8;
                WatchedHalls x = new WatchedHalls();
                Tried.due("hall(" + w + ", " + h + ")", x.hall(w, h), may ? w * h : OUTSIDE);
                Tried.due("W", x.count(0), may ? w : 5);
                Tried.due("H", x.count(1), may ? h : 5);
                Tried.due("stand", x.count(4), may ? w * h : 25);
            }
    }

    private static void cellNumbers() {
        Tried.by("A HALL has W by H CELLS (2 to 8 each; 5 by 5 at first), CELL y W + x.");
        for (int[] size : HALLS) {
            WatchedHalls x = Tried.open(size[0], size[1]);
            int n = size[0] * size[1];
            Tried.due("cell -1", x.cell(-1, WALL), UNKNOWN);
            Tried.due("the cell behind the last", x.cell(n, WALL), UNKNOWN);
            for (int c = 0; c < n; c++) Tried.due("cell " + c, x.kind(c), FLOOR);
            Tried.due("the last", x.cell(n - 1, WALL), FLOOR);
            Tried.due("the last", x.cell(n - 1, FLOOR), WALL);
            Tried.due("the first", x.cell(0, WALL), FLOOR);
            // the wall in 0 is in row 0 and column 0 alone
            x.law(0);
            Tried.due("the rest of row 0", x.sees(1, size[0] - 1), 1);
            Tried.due("the end of row 0 and the beginning of row 1", x.sees(size[0] - 1, size[0]), 0);
            Tried.due("row 1", x.sees(size[0], 2 * size[0] - 1), 1);
            Tried.due("column 1", x.sees(1, size[0] * (size[1] - 1) + 1), 1);
        }
        WatchedHalls x = Tried.open(3, 5);
        x.law(0);
        x.cell(2 * 3 + 1, WALL);
        Tried.due("row 2", x.sees(6, 8), 0);
        Tried.due("column 1", x.sees(4, 10), 0);
        Tried.due("row 1", x.sees(3, 5), 1);
        Tried.due("row 3", x.sees(9, 11), 1);
        Tried.due("column 0", x.sees(0, 12), 1);
        Tried.due("column 2", x.sees(2, 14), 1);
    }

    private static void hallAnew() {
        Tried.by("W by H CELLS of FLOOR, no PICTURES, no ROUNDS, SHIFTS 0 (LAW, RANGE stay): how many CELLS.");
        for (int law = 0; law <= 2; law++)
            for (int range = 1; range <= 8; range++) {
                WatchedHalls x = Tried.open(8, 8);
                x.law(law);
                x.range(range);
                for (int n = 0; n < 8; n++) x.picture(n, 1);
                for (int w = 0; w < 4; w++) {
                    Tried.go(x, w, 63, 63, 63, 63, 63, 63);
                    x.shift(w, 5);
                }
                for (int c = 0; c < 64; c++) x.cell(c, 1 + c % 3);
                Tried.due("the same sides", x.hall(8, 8), 64);
                for (int c = 0; c < 64; c++) Tried.due("kind " + c, x.kind(c), FLOOR);
                for (int p = 0; p < 8; p++) Tried.due("picture " + p, x.about(p, 0), UNKNOWN);
                for (int w = 0; w < 4; w++) {
                    Tried.due("round", x.where(w, 0), NONE);
                    Tried.due("no round to wipe", x.wipe(w), 0);
                    Tried.due("shift", x.shift(w, 0), 0);
                }
                Tried.due("pictures", x.count(2), 0);
                Tried.due("rounds", x.count(3), 0);
                Tried.due("period", x.period(), 1);
                Tried.due("law", x.law(0), law);
                Tried.due("range", x.range(1), range);
            }
    }

    private static void kinds() {
        Tried.by("KINDS: 0 FLOOR (all at first), 1 WALL, 2 GLASS, 3 CURTAIN.");
        WatchedHalls x = new WatchedHalls();
        int was = FLOOR;
        for (int kind = -1; kind <= 4; kind++) {
            boolean may = kind >= 0 && kind <= 3;
            Tried.due("kind " + kind, x.cell(24, kind), may ? was : OUTSIDE);
            was = may ? kind : was;
            Tried.due("as it is", x.kind(24), was);
            Tried.due("the one ahead", x.kind(23), FLOOR);
        }
        for (int kind = 0; kind <= 3; kind++) {
            Tried.due("to " + kind, x.cell(0, kind), kind == 0 ? 0 : kind - 1);
            Tried.due("to the same", x.cell(0, kind), kind);
        }
    }

    private static void standing() {
        Tried.by("One may STAND on FLOOR and in a CURTAIN.");
        for (int kind = 0; kind <= 3; kind++) {
            WatchedHalls x = Tried.open(2, 2);
            x.cell(0, kind);
            boolean may = stands(kind);
            Tried.due("how many", x.count(4), may ? 4 : 3);
            Tried.due("sees itself", x.sees(0, 0), yes(may));
            Tried.due("tour", x.tour(0), may ? 0 : STATE);
            Tried.due("step", x.step(0, 0), may ? 1 : STATE);
            Tried.due("far from itself", x.far(0, 0), may ? 0 : NONE);
            Tried.due("far to it", x.far(1, 0), may ? 1 : NONE);
            Tried.due("far from it", x.far(0, 3), may ? 2 : NONE);
            Tried.due("round it", x.far(1, 2), 2);
            x.wipe(0);
            x.picture(3, 0);
            Tried.due("theft", x.theft(0, 0, 0), may ? 4 : NONE);
            Tried.due("hours", x.hours(0, 0), may ? 1 : 0);
        }
    }

    private static void noneStands() {
        Tried.by("CELLS on which one may STAND (4)");
        WatchedHalls x = Tried.drawn("=#", "#=");
        Tried.due("none", x.count(4), 0);
        x.cell(3, CURTAIN);
        Tried.due("one", x.count(4), 1);
        x.cell(0, FLOOR);
        Tried.due("two", x.count(4), 2);
        Tried.due("all", Tried.open(8, 8).count(4), 64);
        WatchedHalls curtains = Tried.drawn("%%", "%%");
        Tried.due("all curtains", curtains.count(4), 4);
        Tried.due("from curtain to curtain", curtains.far(0, 3), 2);
    }

    private static void neighbours() {
        Tried.by("NEIGHBOURS: CELLS beside one another in a row or column on which one may STAND.");
        for (int[] size : HALLS) {
            int w = size[0];
            for (int a = 0; a < w * size[1]; a++) {
                // no end of a row is beside the next row's beginning, and no row 0 beside the last
                WatchedHalls x = Tried.open(w, size[1]);
                for (int b = 0; b < w * size[1]; b++) {
                    int apart = Math.abs(a % w - b % w) + Math.abs(a / w - b / w);
                    Tried.due("far(" + a + ", " + b + ") in " + w + " by " + size[1], x.far(a, b), apart);
                    x.wipe(0);
                    x.step(0, a);
                    Tried.due("step from " + a + " to " + b, x.step(0, b), apart <= 1 ? 2 : STATE);
                }
            }
        }
    }

    private static void blockedNeighbours() {
        Tried.by("NEIGHBOURS: CELLS beside one another in a row or column on which one may STAND.");
        for (int a = 0; a <= 3; a++)
            for (int b = 0; b <= 3; b++) {
                WatchedHalls x = Tried.drawn("##", "##");
                x.cell(0, a);
                x.cell(1, b);
                boolean both = stands(a) && stands(b);
                Tried.due("kinds " + a + ", " + b, x.far(0, 1), both ? 1 : NONE);
                Tried.due("and back", x.far(1, 0), both ? 1 : NONE);
                // a round from floor to floor that these kinds come under later
                WatchedHalls y = Tried.go(Tried.open(2, 2), 0, 0, 1);
                y.cell(0, a);
                y.cell(1, b);
                Tried.due("closed", y.closed(0), yes(both));
            }
    }

    private static WatchedHalls winding() {
        return Tried.drawn(
            "........",
            "#######.",
            "........",
            ".#######",
            "........",
            "#######.",
            "........",
            ".#######");
    }

    private static void farthest() {
        Tried.by("FAR of two CELLS: the fewest steps from NEIGHBOUR to NEIGHBOUR; NONE.");
        WatchedHalls x = winding();
        Tried.due("a cell itself", x.far(0, 0), 0);
        Tried.due("all the way", x.far(0, 56), 35);
        Tried.due("and back", x.far(56, 0), 35);
        Tried.due("one less", x.far(0, 48), 34);
        Tried.due("across a wall", x.far(0, 16), 16);
        x.cell(8, GLASS);
        Tried.due("across glass", x.far(0, 16), 16);
        x.cell(8, CURTAIN);
        Tried.due("through a curtain", x.far(0, 16), 2);
        Tried.due("all the way then", x.far(0, 56), 21);
    }

    private static void farNone() {
        Tried.by("FAR; NONE (also if one may not STAND on one of them).");
        WatchedHalls x = Tried.drawn(".#.", ".=.", ".#.");
        Tried.due("no way", x.far(0, 2), NONE);
        Tried.due("and back", x.far(8, 3), NONE);
        Tried.due("into a wall", x.far(0, 1), NONE);
        Tried.due("out of a wall", x.far(1, 0), NONE);
        Tried.due("a wall itself", x.far(1, 1), NONE);
        Tried.due("glass itself", x.far(4, 4), NONE);
        Tried.due("wall to glass", x.far(1, 4), NONE);
        x.cell(4, CURTAIN);
        Tried.due("a curtain itself", x.far(4, 4), 0);
        Tried.due("a way", x.far(0, 2), 4);
    }

    // ---- 1 sight

    private static void sightTerms() {
        lawNumbers();
        rangeNumbers();
        seesItself();
        floorAlone();
        withinRange();
        rangeInBoxes();
        lawOfLines();
        lawOfBoxes();
        lawOfAllBoxes();
        lawOfWaysInside();
        lawOfWaysCorners();
        lawOfWaysTwoCorners();
        viewLeastAndMost();
        bestOfLike();
        bestNone();
    }

    private static void lawNumbers() {
        Tried.by("SIGHT is by a LAW 0 to 2 (2 at first) and a RANGE (1 to 8; 8 at first).");
        for (int first = 0; first <= 2; first++)
            for (int law = -2; law <= 4; law++) {
                WatchedHalls x = new WatchedHalls();
                Tried.due("law at first", x.law(first), 2);
                boolean may = law >= 0 && law <= 2;
                Tried.due("law(" + law + ")", x.law(law), may ? first : OUTSIDE);
                Tried.due("what it was", x.law(0), may ? law : first);
            }
    }

    private static void rangeNumbers() {
        Tried.by("SIGHT is by a LAW 0 to 2 (2 at first) and a RANGE (1 to 8; 8 at first).");
        for (int first = 1; first <= 8; first++)
            for (int range = -1; range <= 10; range++) {
                WatchedHalls x = new WatchedHalls();
                Tried.due("range at first", x.range(first), 8);
                boolean may = range >= 1 && range <= 8;
                Tried.due("range(" + range + ")", x.range(range), may ? first : OUTSIDE);
                Tried.due("what it was", x.range(1), may ? range : first);
            }
    }

    private static void seesItself() {
        Tried.by("A CELL on which one may STAND SEES itself;");
        for (int law = 0; law <= 2; law++)
            for (int range = 1; range <= 8; range++)
                for (int kind = 0; kind <= 3; kind++) {
                    WatchedHalls x = Tried.drawn("###", "###", "###");
                    x.law(law);
                    x.range(range);
                    x.cell(4, kind);
                    Tried.due("kind " + kind, x.sees(4, 4), yes(stands(kind)));
                    Tried.due("and nothing else", x.view(4), yes(stands(kind)));
                }
    }

    private static void floorAlone() {
        Tried.by("a CELL of FLOOR SEES another one of FLOOR");
        for (int law = 0; law <= 2; law++)
            for (int a = 0; a <= 3; a++)
                for (int b = 0; b <= 3; b++) {
                    WatchedHalls x = new WatchedHalls();
                    x.law(law);
                    x.cell(6, a);
                    x.cell(7, b);
                    x.cell(11, b);
                    Tried.due("beside in a row: " + a + ", " + b, x.sees(6, 7), yes(a == FLOOR && b == FLOOR));
                    Tried.due("beside in a column: " + a + ", " + b, x.sees(6, 11), yes(a == FLOOR && b == FLOOR));
                    Tried.due("back: " + b + ", " + a, x.sees(11, 6), yes(a == FLOOR && b == FLOOR));
                }
    }

    private static void withinRange() {
        Tried.by("if neither of the sizes of x and y between them is above RANGE, and:");
        for (int law = 0; law <= 2; law++)
            for (int range = 1; range <= 8; range++) {
                WatchedHalls x = Tried.open(8, 8);
                x.law(law);
                x.range(range);
                for (int dx = 0; dx < 8; dx++)
                    for (int dy = 0; dy < 8; dy++) {
                        boolean near = dx <= range && dy <= range;
                        int want = yes(near && (law != 0 || dx == 0 || dy == 0));
                        String what = "law " + law + ", range " + range + ", " + dx + " and " + dy;
                        Tried.due(what, x.sees(0, 8 * dy + dx), want);
                        Tried.due(what + " back", x.sees(63 - dx, 63 - 8 * dy), yes(near && (law != 0 || dx == 0 || dy == 0)));
                        Tried.due(what + " aslant", x.sees(7, 7 - dx + 8 * dy), want);
                    }
            }
    }

    private static void rangeInBoxes() {
        Tried.by("if neither of the sizes of x and y between them is above RANGE, and:");
        for (int range = 1; range <= 8; range++) {
            WatchedHalls x = Tried.open(8, 8);
            x.range(range);
            int near = Math.min(range, 7) + 1;
            Tried.due("from a corner, range " + range, x.view(0), near * near);
            Tried.due("from the other corner", x.view(63), near * near);
            int both = Math.min(range, 3) + 1 + Math.min(range, 4);
            Tried.due("from 3, 3", x.view(27), both * both);
            x.law(0);
            Tried.due("in lines from a corner", x.view(0), 2 * near - 1);
            Tried.due("in lines from 3, 3", x.view(27), 2 * both - 1);
        }
    }

    private static void lawOfLines() {
        Tried.by("LAW 0: they are in one row or column, and all CELLS between are FLOOR or GLASS.");
        for (int kind = 0; kind <= 3; kind++)
            for (int c = 1; c <= 6; c++) {
                WatchedHalls row = Tried.drawn("........", "########");
                row.law(0);
                row.cell(c, kind);
                Tried.due("in a row: " + kind + " in " + c, row.sees(0, 7), yes(clear(kind)));
                Tried.due("and back", row.sees(7, 0), yes(clear(kind)));
                Tried.due("up to it", row.sees(0, c), yes(kind == FLOOR));
                WatchedHalls column = Tried.drawn(".#", ".#", ".#", ".#", ".#", ".#", ".#", ".#");
                column.law(0);
                column.cell(2 * c, kind);
                Tried.due("in a column: " + kind + " in " + c, column.sees(0, 14), yes(clear(kind)));
                Tried.due("and back", column.sees(14, 0), yes(clear(kind)));
            }
        WatchedHalls x = Tried.open(2, 2);
        x.law(0);
        Tried.due("none between", x.sees(0, 1), 1);
        Tried.due("none between", x.sees(0, 2), 1);
        Tried.due("aslant", x.sees(0, 3), 0);
        Tried.due("aslant", x.sees(1, 2), 0);
        WatchedHalls beyond = Tried.drawn("#..#", "#..#", "####");
        beyond.law(0);
        Tried.due("walls behind both", beyond.sees(1, 2), 1);
        Tried.due("walls above and below", beyond.sees(1, 5), 1);
    }

    private static void lawOfBoxes() {
        Tried.by("LAW 1: all CELLS of the least box (of rows and columns) that holds both are FLOOR or GLASS.");
        int[][] ends = {{6, 13}, {13, 6}, {8, 11}, {11, 8}}; // 1, 1 and 3, 2; 3, 1 and 1, 2; of 5 by 4
        for (int[] e : ends)
            for (int c = 0; c < 20; c++)
                for (int kind = 0; kind <= 3; kind++) {
                    if (c == e[0] || c == e[1]) continue;
                    boolean within = c % 5 >= 1 && c % 5 <= 3 && c / 5 >= 1 && c / 5 <= 2;
                    WatchedHalls x = Tried.open(5, 4);
                    x.law(1);
                    x.cell(c, kind);
                    Tried.due(kind + " in " + c, x.sees(e[0], e[1]), yes(!within || clear(kind)));
                }
        WatchedHalls row = Tried.drawn("###", "...", "###");
        row.law(1);
        Tried.due("a box of one row", row.sees(3, 5), 1);
        row.cell(4, CURTAIN);
        Tried.due("a curtain in it", row.sees(3, 5), 0);
        WatchedHalls column = Tried.drawn("#.#", "#.#", "#.#");
        column.law(1);
        Tried.due("a box of one column", column.sees(1, 7), 1);
        column.cell(4, WALL);
        Tried.due("a wall in it", column.sees(1, 7), 0);
    }

    private static void lawOfAllBoxes() {
        Tried.by("LAW 1: all CELLS of the least box (of rows and columns) that holds both are FLOOR or GLASS.");
        for (int c = 0; c < 12; c++)
            for (int kind = 0; kind <= 3; kind++) {
                WatchedHalls x = Tried.open(4, 3);
                x.law(1);
                x.cell(c, kind);
                for (int a = 0; a < 12; a++)
                    for (int b = 0; b < 12; b++) {
                        if (a == b || a == c || b == c) continue;
                        boolean within = c % 4 >= Math.min(a % 4, b % 4) && c % 4 <= Math.max(a % 4, b % 4)
                            && c / 4 >= Math.min(a / 4, b / 4) && c / 4 <= Math.max(a / 4, b / 4);
                        Tried.due(kind + " in " + c + " from " + a + " to " + b, x.sees(a, b), yes(!within || clear(kind)));
                    }
            }
    }

    /** Where a point lies of the way from a to b, in halves of a cell's side: 0 is on it. */
    private static int side(int a, int b, int px, int py) {
        int ax = 2 * (a % 8) + 1, ay = 2 * (a / 8) + 1;
        int bx = 2 * (b % 8) + 1, by = 2 * (b / 8) + 1;
        return Integer.signum((bx - ax) * (py - ay) - (by - ay) * (px - ax));
    }

    private static boolean inBox(int a, int b, int cx, int cy) {
        return cx >= Math.min(a % 8, b % 8) && cx <= Math.max(a % 8, b % 8)
            && cy >= Math.min(a / 8, b / 8) && cy <= Math.max(a / 8, b / 8);
    }

    /** The way goes through the inside of a cell if the cell's corners lie on both sides of it. */
    private static boolean inside(int a, int b, int c) {
        int cx = c % 8, cy = c / 8;
        boolean left = false, right = false;
        for (int n = 0; n < 4; n++) {
            int s = side(a, b, 2 * (cx + n % 2), 2 * (cy + n / 2));
            left |= s < 0;
            right |= s > 0;
        }
        return left && right && inBox(a, b, cx, cy);
    }

    /** The two cells that the way from a to b touches alone where it goes through the corner x, y; or null. */
    private static int[] touched(int a, int b, int x, int y) {
        boolean within = inBox(a, b, x - 1, y - 1) && inBox(a, b, x, y);
        if (!within || side(a, b, 2 * x, 2 * y) != 0) return null;
        int[] two = new int[2];
        int n = 0;
        for (int c : new int[] {8 * y - 8 + x - 1, 8 * y - 8 + x, 8 * y + x - 1, 8 * y + x})
            if (!inside(a, b, c)) two[n++] = c;
        return two;
    }

    private static final int[] CORNERS = {0, 7, 56, 63, 27};

    private static void lawOfWaysInside() {
        Tried.by("LAW 2: the straight way from middle to middle goes through the inside of no CELL that is WALL or CURTAIN;");
        for (int a : CORNERS)
            for (int b = 0; b < 64; b++) {
                if (a == b) continue;
                WatchedHalls x = Tried.open(8, 8);
                WatchedHalls y = Tried.open(8, 8);
                for (int c = 0; c < 64; c++) {
                    if (c == a || c == b) continue;
                    int want = yes(!inside(a, b, c));
                    x.cell(c, WALL);
                    y.cell(c, CURTAIN);
                    Tried.due("from " + a + " to " + b + ", a wall in " + c, x.sees(a, b), want);
                    Tried.due("and back", x.sees(b, a), want);
                    Tried.due("from " + a + " to " + b + ", a curtain in " + c, y.sees(a, b), want);
                    x.cell(c, FLOOR);
                    y.cell(c, GLASS);
                }
                Tried.due("all glass but the ends", y.sees(a, b), 1);
            }
        // the same without a reckoning: 6 by 1 goes through both cells of column 3, 7 by 1 through a corner
        Tried.due("6 by 1", Tried.drawn("....###", "###....").sees(0, 13), 1);
        Tried.due("6 by 1", Tried.drawn("...####", "###....").sees(0, 13), 0);
        Tried.due("6 by 1", Tried.drawn("....###", "####...").sees(0, 13), 0);
        Tried.due("7 by 1", Tried.drawn(".....###", "####....").sees(0, 15), 1);
        Tried.due("7 by 1", Tried.drawn("....####", "####....").sees(0, 15), 0);
        Tried.due("7 by 1", Tried.drawn("....####", "###.....").sees(0, 15), 1);
    }

    private static void lawOfWaysCorners() {
        Tried.by("where it goes just through a corner of four CELLS, one at least of the two that it touches there alone is FLOOR or GLASS.");
        for (int a = 0; a < 64; a++)
            for (int b = 0; b < 64; b++)
                for (int n = 0; n < 49 && a != b; n++) {
                    int[] two = touched(a, b, 1 + n % 7, 1 + n / 7);
                    if (two == null) continue;
                    WatchedHalls x = Tried.open(8, 8);
                    for (int k = 0; k < 16; k++) {
                        x.cell(two[0], k % 4);
                        x.cell(two[1], k / 4);
                        int want = yes(clear(k % 4) || clear(k / 4));
                        Tried.due("from " + a + " to " + b + ", " + k % 4 + " in " + two[0] + ", " + k / 4 + " in " + two[1],
                            x.sees(a, b), want);
                    }
                }
    }

    private static void lawOfWaysTwoCorners() {
        Tried.by("where it goes just through a corner of four CELLS, one at least of the two that it touches there alone is FLOOR or GLASS.");
        // from 0 to 27 in 8 by 8: corners 1, 2 and 3 of the slant
        int[][] pairs = {{1, 8}, {10, 17}, {19, 26}};
        for (int p = 0; p < 3; p++)
            for (int q = 0; q < 3; q++)
                for (int side = 0; side < 4; side++) {
                    WatchedHalls x = Tried.open(8, 8);
                    x.cell(pairs[p][side % 2], WALL);
                    x.cell(pairs[q][side / 2], CURTAIN);
                    Tried.due("at corners " + p + " and " + q, x.sees(0, 27), yes(p != q || side % 2 == side / 2));
                }
        WatchedHalls lane = Tried.open(8, 8);
        for (int[] two : pairs) lane.cell(two[0], WALL);
        Tried.due("walls all along one side", lane.sees(0, 27), 1);
        lane.cell(pairs[2][1], GLASS);
        Tried.due("glass on the other", lane.sees(0, 27), 1);
        lane.cell(pairs[2][1], WALL);
        Tried.due("and a wall", lane.sees(0, 27), 0);
    }

    private static void viewLeastAndMost() {
        Tried.by("How many CELLS a CELL SEES (itself too, if one may STAND on it).");
        WatchedHalls x = Tried.open(8, 8);
        Tried.due("all", x.view(0), 64);
        Tried.due("all", x.view(63), 64);
        x.cell(63, GLASS);
        Tried.due("not the glass", x.view(0), 63);
        Tried.due("none from glass", x.view(63), 0);
        x.cell(63, WALL);
        Tried.due("none from a wall", x.view(63), 0);
        x.cell(63, CURTAIN);
        Tried.due("itself alone from a curtain", x.view(63), 1);
        Tried.due("not the curtain", x.view(0), 63);
        WatchedHalls shut = Tried.drawn("#.#", ".#.");
        shut.law(0);
        Tried.due("itself alone from floor", shut.view(1), 1);
    }

    private static void bestOfLike() {
        Tried.by("Of CELLS on which one may STAND that which SEES most CELLS, of like ones the least; NONE: there is none.");
        for (int[] size : HALLS) Tried.due("all see all", Tried.open(size[0], size[1]).best(), 0);
        WatchedHalls x = Tried.drawn("#.", "..");
        x.law(0);
        Tried.due("3 sees most, and is the last", x.best(), 3);
        WatchedHalls two = Tried.drawn("..#..", "#####");
        Tried.due("the first of two lots", two.best(), 0);
        two.cell(0, CURTAIN);
        Tried.due("the second", two.best(), 3);
        two.cell(4, CURTAIN);
        Tried.due("all see themselves alone", two.best(), 0);
        two.cell(0, WALL);
        Tried.due("the least of the rest", two.best(), 1);
        WatchedHalls last = Tried.open(8, 8);
        for (int c = 0; c < 63; c++) last.cell(c, WALL);
        Tried.due("the last alone", last.best(), 63);
    }

    private static void bestNone() {
        Tried.by("Of CELLS on which one may STAND that which SEES most CELLS, of like ones the least; NONE: there is none.");
        WatchedHalls x = Tried.drawn("#=", "=#");
        Tried.due("there is none", x.best(), NONE);
        x.cell(3, CURTAIN);
        Tried.due("a curtain", x.best(), 3);
        x.cell(3, GLASS);
        Tried.due("glass", x.best(), NONE);
    }

    // ---- 2 pictures

    private static void pictureTerms() {
        eightPictures();
        facings();
        onFloor();
        whateverItBecomes();
        aboutWhat();
        notBehind();
        seesItsCell();
        setOfPictures();
    }

    private static void eightPictures() {
        Tried.by("PICTURES 0, 1, .. (8 at most)");
        WatchedHalls x = new WatchedHalls();
        for (int n = 0; n < 8; n++) {
            Tried.due("so many", x.count(2), n);
            Tried.due("the next is not there yet", x.about(n, 0), UNKNOWN);
            Tried.due("its number", x.picture(24 - n, n % 4), n);
            Tried.due("its cell", x.about(n, 0), 24 - n);
            Tried.due("its facing", x.about(n, 1), n % 4);
        }
        Tried.due("the ninth", x.picture(0, 0), FULL);
        Tried.due("the ninth in a cell that has one", x.picture(24, 0), FULL);
        Tried.due("so many", x.count(2), 8);
        Tried.due("none of number 8", x.about(8, 0), UNKNOWN);
        Tried.due("number 7", x.about(7, 0), 17);
        x.hall(2, 2);
        for (int n = 0; n < 8; n++) Tried.due("anew, all in one cell", x.picture(3, 3), n);
        Tried.due("the ninth", x.picture(0, 0), FULL);
    }

    private static void facings() {
        Tried.by("a FACING 0 to 3: x more, y more, x less, y less.");
        WatchedHalls x = new WatchedHalls();
        int number = 0;
        for (int facing = -2; facing <= 5; facing++) {
            boolean may = facing >= 0 && facing <= 3;
            Tried.due("facing " + facing, x.picture(12, facing), may ? number : OUTSIDE);
            if (may) Tried.due("as told", x.about(number++, 1), facing);
        }
        // from straight ahead of one, behind the one that faces the other way
        Tried.due("x more", x.from(13), 1 + 2 + 8);
        Tried.due("y more", x.from(17), 1 + 2 + 4);
        Tried.due("x less", x.from(11), 2 + 4 + 8);
        Tried.due("y less", x.from(7), 1 + 4 + 8);
    }

    private static void onFloor() {
        Tried.by("STATE: it is no FLOOR;");
        for (int kind = 0; kind <= 3; kind++) {
            WatchedHalls x = new WatchedHalls();
            x.cell(24, kind);
            Tried.due("kind " + kind, x.picture(24, 0), kind == FLOOR ? 0 : STATE);
            x.cell(24, FLOOR);
            Tried.due("floor again", x.picture(24, 0), kind == FLOOR ? 1 : 0);
        }
    }

    private static void whateverItBecomes() {
        Tried.by("a CELL of FLOOR (whatever it becomes later)");
        for (int kind = 0; kind <= 3; kind++) {
            WatchedHalls x = new WatchedHalls();
            x.picture(12, 0);
            x.cell(12, kind);
            Tried.due("it stays", x.count(2), 1);
            Tried.due("its cell", x.about(0, 0), 12);
            Tried.due("seen from beside", x.seen(0, 13), yes(kind == FLOOR));
            Tried.due("seen from its cell", x.seen(0, 12), yes(stands(kind)));
            Tried.due("fewest", x.fewest(), stands(kind) ? 1 : NONE);
            Tried.due("tour", x.tour(10), stands(kind) ? 4 : NONE);
            Tried.due("theft", x.theft(0, 10, 0), stands(kind) ? 4 : NONE);
            x.cell(12, FLOOR);
            Tried.due("seen from beside again", x.seen(0, 13), 1);
        }
    }

    private static void aboutWhat() {
        Tried.by("CELL of a PICTURE (what = 0), FACING (1).");
        WatchedHalls x = Tried.open(8, 8);
        x.picture(63, 0);
        x.picture(0, 3);
        Tried.due("-1", x.about(0, -1), OUTSIDE);
        Tried.due("cell", x.about(0, 0), 63);
        Tried.due("facing", x.about(0, 1), 0);
        Tried.due("2", x.about(0, 2), OUTSIDE);
        Tried.due("cell", x.about(1, 0), 0);
        Tried.due("facing", x.about(1, 1), 3);
        Tried.due("picture -1", x.about(-1, 0), UNKNOWN);
        Tried.due("picture 2", x.about(2, 0), UNKNOWN);
    }

    private static void notBehind() {
        Tried.by("for FACING 0 x is no less than its own, for 1 y no less, for 2 x no more, for 3 y no more.");
        WatchedHalls x = new WatchedHalls();
        for (int f = 0; f < 4; f++) x.picture(12, f);
        for (int c = 0; c < 25; c++) {
            int dx = c % 5 - 2, dy = c / 5 - 2;
            Tried.due("facing 0 from " + c, x.seen(0, c), yes(dx >= 0));
            Tried.due("facing 1 from " + c, x.seen(1, c), yes(dy >= 0));
            Tried.due("facing 2 from " + c, x.seen(2, c), yes(dx <= 0));
            Tried.due("facing 3 from " + c, x.seen(3, c), yes(dy <= 0));
        }
        Tried.due("just beside it: as much", x.seen(0, 7), 1);
        Tried.due("just behind: one less", x.seen(0, 6), 0);
    }

    private static void seesItsCell() {
        Tried.by("It is SEEN from a CELL that SEES its CELL, and is not behind");
        for (int range = 1; range <= 8; range++) {
            WatchedHalls x = Tried.open(8, 2);
            x.picture(0, 0);
            x.range(range);
            for (int c = 0; c < 8; c++) Tried.due("from " + c + " by range " + range, x.seen(0, c), yes(c <= range));
        }
        WatchedHalls x = Tried.drawn("...", ".#.");
        x.picture(3, 0);
        Tried.due("past a wall", x.seen(0, 5), 0);
        Tried.due("aslant by one free corner", x.seen(0, 1), 1);
        x.law(1);
        Tried.due("by law 1", x.seen(0, 1), 0);
        x.law(0);
        Tried.due("by law 0", x.seen(0, 1), 0);
        Tried.due("in its column", x.seen(0, 0), 1);
    }

    private static void setOfPictures() {
        Tried.by("The set of PICTURES that are SEEN from a CELL.");
        WatchedHalls x = new WatchedHalls();
        Tried.due("no pictures", x.from(0), 0);
        for (int n = 0; n < 8; n++) {
            x.picture(n == 7 ? 24 : 0, 1);
            Tried.due("from the end", x.from(20), (2 << n) - 1);
            Tried.due("from row 1", x.from(5), n == 7 ? 127 : (2 << n) - 1);
        }
        x.range(1);
        Tried.due("the last alone", x.from(24), 128);
        Tried.due("none", x.from(22), 0);
        x.cell(24, GLASS);
        Tried.due("from glass", x.from(24), 0);
    }

    // ---- 2 the fewest

    private static void fewestTerms() {
        fewestOfNone();
        fewestMost();
        fewestWhereOneStands();
        fewestInOrder();
        fewestNone();
        postNumbers();
    }

    private static void fewestOfNone() {
        Tried.by("How many THE FEWEST are; NONE. (0: there are no PICTURES.)");
        WatchedHalls x = new WatchedHalls();
        Tried.due("no pictures", x.fewest(), 0);
        WatchedHalls shut = Tried.drawn("##", "==");
        Tried.due("no pictures and none stands", shut.fewest(), 0);
        Tried.due("no post", shut.post(0), NONE);
        x.picture(0, 0);
        Tried.due("one", x.fewest(), 1);
        x.hall(5, 5);
        Tried.due("none again", x.fewest(), 0);
    }

    private static void fewestMost() {
        Tried.by("PICTURE is SEEN from one of them at least");
        for (int many = 1; many <= 8; many++) {
            WatchedHalls x = Tried.open(8, 8);
            for (int n = 0; n < many; n++) Tried.hangInCurtain(x, 63 - 9 * n);
            int[] want = new int[many];
            for (int n = 0; n < many; n++) want[n] = 63 - 9 * (many - 1 - n);
            Tried.due("so many are needed", x.fewest(), many);
            Tried.due("each alone, in order", Tried.postsOf(x), want);
        }
        WatchedHalls like = new WatchedHalls();
        for (int n = 0; n < 8; n++) like.picture(n, 1);
        Tried.due("one sees all eight", like.fewest(), 1);
        Tried.due("the least below them all", like.post(0), 5);
    }

    private static void fewestWhereOneStands() {
        Tried.by("so few CELLS on which one may STAND that each");
        // of 0 to 4 in a row the least that one may stand on, sees the picture in 4
        for (int kind = 0; kind <= 3; kind++) {
            WatchedHalls x = Tried.drawn(".....", "#####");
            x.picture(4, 2);
            x.cell(0, kind);
            Tried.due("kind " + kind + " in 0", Tried.postsOf(x), kind == FLOOR ? 0 : 1);
        }
        WatchedHalls x = Tried.drawn("##", "##");
        Tried.hangInCurtain(x, 3);
        Tried.due("in the curtain itself", Tried.postsOf(x), 3);
    }

    private static void fewestInOrder() {
        Tried.by("of as many the first by CELLS in order");
        // pictures in 0 and 4 of a row of range 1: 0 or 1 for the one, 3 or 4 for the other
        WatchedHalls x = Tried.drawn(".....", "#####");
        x.range(1);
        x.picture(4, 2);
        x.picture(0, 0);
        Tried.due("first by cells", Tried.postsOf(x), 0, 3);
        x.picture(2, 2);
        // the third is seen from 1 and 2: 0 would need two more
        Tried.due("0 is of no use now", Tried.postsOf(x), 1, 3);
        x.picture(2, 0);
        // that is seen from 2 and 3: 1 and 3 still do
        Tried.due("1 and 3", Tried.postsOf(x), 1, 3);
        // fewer is ahead of first: 0 sees one of them, 2 sees both
        WatchedHalls fewer = Tried.drawn(".....", "#####");
        fewer.range(2);
        fewer.picture(0, 0);
        fewer.picture(4, 2);
        Tried.due("fewer", Tried.postsOf(fewer), 2);
        // the later picture's post comes first, as cells are in order and not pictures
        WatchedHalls order = Tried.drawn("..", "##", "..");
        order.picture(5, 0);
        order.picture(1, 0);
        Tried.due("by cells, not by pictures", Tried.postsOf(order), 1, 5);
    }

    private static void fewestNone() {
        Tried.by("NONE: some PICTURE is SEEN from nowhere.");
        for (int hidden = 0; hidden < 8; hidden++) {
            WatchedHalls x = Tried.open(8, 2);
            for (int n = 0; n < 8; n++) x.picture(n, 1);
            Tried.due("all are seen", x.fewest(), 1);
            x.cell(hidden, WALL);
            Tried.due("one is not", x.fewest(), NONE);
            Tried.due("no post", x.post(0), NONE);
            x.cell(hidden, CURTAIN);
            Tried.due("a second one for it", x.fewest(), 2);
        }
    }

    private static void postNumbers() {
        Tried.by("The i-th of THE FEWEST; NONE.");
        WatchedHalls x = Tried.open(8, 8);
        for (int n = 0; n < 8; n++) Tried.hangInCurtain(x, 7 * n + 7);
        Tried.due("-1", x.post(-1), NONE);
        for (int i = 0; i < 8; i++) Tried.due("post " + i, x.post(i), 7 * i + 7);
        Tried.due("8", x.post(8), NONE);
        Tried.due("none of no pictures", new WatchedHalls().post(0), NONE);
    }

    // ---- 2 tours

    private static void tourTerms() {
        tourOfNoSteps();
        tourStands();
        tourLongest();
        tourOfMostStates();
        tourNone();
        tourAnew();
        tourOrder();
        tourStepNumbers();
    }

    private static void tourOfNoSteps() {
        Tried.by("steps from NEIGHBOUR to NEIGHBOUR back to it, each PICTURE being SEEN from some CELL of it.");
        WatchedHalls x = Tried.drawn("..#", "#..");
        Tried.due("no pictures", x.tour(0), 0);
        Tried.due("no step", x.tourStep(0, 0), NONE);
        x.picture(0, 0);
        Tried.due("seen from where it begins", x.tour(0), 0);
        Tried.due("no step", x.tourStep(0, 0), NONE);
        x.range(1);
        x.law(0);
        Tried.due("beside it", x.tour(1), 0);
        Tried.due("there and back", Tried.tourOf(x, 4), 3, 1);
        Tried.due("from its end: two and two", Tried.tourOf(x, 5), 2, 3, 1, 0);
        // seen on the way alone, not from the ends
        WatchedHalls way = Tried.drawn("..%", "#.#", "#.#");
        way.law(0);
        way.picture(7, 3);
        Tried.hangInCurtain(way, 2);
        Tried.due("past the one to the other", Tried.tourOf(way, 0), 0, 0, 2, 2);
    }

    private static void tourStands() {
        Tried.by("STATE: one may not STAND there.");
        for (int kind = 0; kind <= 3; kind++) {
            WatchedHalls x = Tried.open(2, 2);
            x.cell(3, kind);
            Tried.due("kind " + kind, x.tour(3), stands(kind) ? 0 : STATE);
            Tried.due("a step of it", x.tourStep(3, 0), stands(kind) ? NONE : STATE);
            x.picture(0, 0);
            Tried.due("kind " + kind + ", a picture", x.tour(3), kind == FLOOR ? 0 : kind == CURTAIN ? 2 : STATE);
        }
    }

    private static void tourLongest() {
        Tried.by("THE SHORTEST TOUR has fewest steps");
        WatchedHalls x = winding();
        Tried.hangInCurtain(x, 56);
        Tried.due("all the way and back", x.tour(0), 70);
        int[] d = Tried.tourOf(x, 0);
        for (int i = 0; i < 35; i++) Tried.due("back as there", d[69 - i], (d[i] + 2) % 4);
        Tried.due("the last one there", d[34], 1);
        Tried.due("the first one back", d[35], 3);
        Tried.due("no more", x.tourStep(0, 70), NONE);
        for (int n = 0; n < 7; n++) Tried.hangInCurtain(x, n);
        Tried.due("eight pictures", x.tour(0), 70);
        Tried.due("from the middle", x.tour(32), 70);
    }

    private static void tourOfMostStates() {
        Tried.by("THE SHORTEST TOUR has fewest steps");
        // corners and middles of the sides: of 256 sets and 64 cells nearly all are come to from 3, 3
        WatchedHalls x = Tried.open(8, 8);
        for (int c : new int[] {0, 3, 7, 24, 31, 56, 59, 63}) Tried.hangInCurtain(x, c);
        Tried.due("7 to a corner, 21 along three sides, 6 back by the middle of the fourth", Tried.tourOf(x, 27),
            0, 0, 0, 0, 3, 3, 3, 1, 1, 1, 1, 1, 1, 1, 2, 2, 2, 2, 2, 2, 2, 3, 3, 3, 3, 3, 3, 3, 0, 0, 0, 1, 1, 1);
        x.cell(58, WALL);
        x.cell(51, WALL);
        x.cell(60, WALL);
        Tried.due("one is cut off", x.tour(27), NONE);
    }

    private static void tourNone() {
        Tried.by("NONE: there is no such step, or TOUR.");
        WatchedHalls x = Tried.drawn(".#.", ".#.");
        x.picture(2, 0);
        Tried.due("cut off", x.tour(0), NONE);
        Tried.due("no step of none", x.tourStep(0, 0), NONE);
        Tried.due("not cut off", x.tour(2), 0);
        x.picture(0, 0);
        Tried.due("one on each side", x.tour(2), NONE);
        x.cell(1, CURTAIN);
        Tried.due("through a curtain", x.tour(2), 4);
        x.cell(0, WALL);
        Tried.due("one is in a wall", x.tour(2), NONE);
        // through glass a picture is seen from the other side
        WatchedHalls glass = Tried.drawn(".=.", ".=.");
        glass.picture(2, 2);
        Tried.due("seen through glass", glass.tour(0), 0);
        glass.cell(5, WALL);
        Tried.due("still", glass.tour(0), 0);
    }

    private static void tourAnew() {
        Tried.by("NONE: there is no such step, or TOUR.");
        // what an earlier search found is of no use once the hall has changed
        WatchedHalls x = Tried.drawn("....", "####");
        Tried.hangInCurtain(x, 3);
        Tried.due("there and back", x.tour(0), 6);
        for (int shut = 1; shut <= 2; shut++) {
            x.cell(shut, WALL);
            Tried.due("shut at " + shut, x.tour(0), NONE);
            Tried.due("no step", x.tourStep(0, 0), NONE);
            x.cell(shut, FLOOR);
            Tried.due("there and back again", x.tour(0), 6);
        }
        // the second search comes to as many states as the first had ahead of its end
        WatchedHalls y = Tried.drawn("..", "##");
        Tried.hangInCurtain(y, 1);
        Tried.due("there and back", y.tour(0), 2);
        y.cell(1, WALL);
        y.cell(2, FLOOR);
        Tried.due("another way, but not there", y.tour(0), NONE);
    }

    private static void tourOrder() {
        Tried.by("of like ones the first by DIRECTIONS (0 to 3 as FACINGS).");
        // a picture in a curtain in the middle of each side of 3 by 3
        int[] places = {5, 7, 3, 1};
        for (int f = 0; f < 4; f++) {
            WatchedHalls x = Tried.open(3, 3);
            Tried.hangInCurtain(x, places[f]);
            Tried.due("straight on " + f, Tried.tourOf(x, 4), f, (f + 2) % 4);
        }
        int[] corners = {8, 6, 0, 2};
        int[][] ways = {{0, 1, 2, 3}, {1, 2, 0, 3}, {2, 3, 0, 1}, {0, 3, 1, 2}};
        for (int n = 0; n < 4; n++) {
            WatchedHalls x = Tried.open(3, 3);
            Tried.hangInCurtain(x, corners[n]);
            Tried.due("round to " + corners[n], Tried.tourOf(x, 4), ways[n]);
        }
        WatchedHalls round = Tried.open(2, 2);
        for (int c = 0; c < 4; c++) Tried.hangInCurtain(round, c);
        Tried.due("from 0", Tried.tourOf(round, 0), 0, 1, 2, 3);
        Tried.due("from 1", Tried.tourOf(round, 1), 1, 2, 3, 0);
        Tried.due("from 3", Tried.tourOf(round, 3), 2, 3, 0, 1);
        Tried.due("from 2", Tried.tourOf(round, 2), 0, 3, 2, 1);
    }

    private static void tourStepNumbers() {
        Tried.by("DIRECTION of step i of it; NONE: there is no such step, or TOUR.");
        WatchedHalls x = Tried.drawn("..%", "###");
        Tried.hangInCurtain(x, 2);
        Tried.due("step -1", x.tourStep(0, -1), NONE);
        Tried.due("step 0", x.tourStep(0, 0), 0);
        Tried.due("step 3", x.tourStep(0, 3), 2);
        Tried.due("step 4", x.tourStep(0, 4), NONE);
    }

    // ---- 3 watchers

    private static void watcherTerms() {
        fourWatchers();
        sixCells();
        standsWhenTold();
        sameOrNeighbour();
        closedTellsAlone();
        closedEdges();
        wipeEdges();
        shiftNumbers();
        whereWraps();
        timeNumbers();
        seesNothingThere();
        watchedBySome();
        inSight();
        periods();
        watchersWithRound();
    }

    private static void fourWatchers() {
        Tried.by("WATCHERS 0 to 3, each with a ROUND of 1 to 6 CELLS (or none, as at first)");
        for (int w = -2; w <= 5; w++) {
            WatchedHalls x = new WatchedHalls();
            boolean may = w >= 0 && w <= 3;
            Tried.due("wipe(" + w + ") at first", x.wipe(w), may ? 0 : UNKNOWN);
            Tried.due("closed(" + w + ") at first", x.closed(w), may ? 1 : UNKNOWN);
            Tried.due("where(" + w + ", 0) at first", x.where(w, 0), may ? NONE : UNKNOWN);
            Tried.due("shift(" + w + ", 0) at first", x.shift(w, 0), may ? 0 : UNKNOWN);
            Tried.due("step(" + w + ", 7)", x.step(w, 7), may ? 1 : UNKNOWN);
            Tried.due("rounds", x.count(3), may ? 1 : 0);
            Tried.due("where(" + w + ", 0)", x.where(w, 0), may ? 7 : UNKNOWN);
            for (int other = 0; other < 4; other++)
                if (other != w) Tried.due("watcher " + other, x.where(other, 0), NONE);
        }
    }

    private static void sixCells() {
        Tried.by("A CELL comes behind the ROUND of a WATCHER: how many it has.");
        for (int w = 0; w < 4; w++) {
            WatchedHalls x = Tried.open(8, 2);
            for (int n = 0; n < 6; n++) Tried.due("step " + n, x.step(w, n), n + 1);
            Tried.due("the seventh", x.step(w, 6), FULL);
            Tried.due("the seventh, the same", x.step(w, 5), FULL);
            for (int t = 0; t < 6; t++) Tried.due("at " + t, x.where(w, t), t);
            Tried.due("round", x.where(w, 6), 0);
            Tried.due("the next watcher has his own", x.step((w + 1) % 4, 15), 1);
            Tried.due("it had", x.wipe(w), 6);
            Tried.due("anew", x.step(w, 14), 1);
        }
    }

    private static void standsWhenTold() {
        Tried.by("on which one may STAND when it is told");
        for (int kind = 0; kind <= 3; kind++) {
            WatchedHalls x = new WatchedHalls();
            x.cell(12, kind);
            Tried.due("the first, of kind " + kind, x.step(0, 12), stands(kind) ? 1 : STATE);
            x.step(1, 11);
            Tried.due("a later one, of kind " + kind, x.step(1, 12), stands(kind) ? 2 : STATE);
            WatchedHalls y = Tried.go(new WatchedHalls(), 0, 11, 12);
            y.cell(12, kind);
            Tried.due("it stays in the round", y.where(0, 1), 12);
            Tried.due("the next behind it", y.step(0, 13), stands(kind) ? 3 : STATE);
            Tried.due("it itself again", y.step(0, 12), stands(kind) ? 4 : STATE);
            Tried.due("it had", y.wipe(0), stands(kind) ? 4 : 2);
        }
    }

    private static void sameOrNeighbour() {
        Tried.by("each the same as or a NEIGHBOUR of the one ahead");
        for (int c = 0; c < 25; c++) {
            int apart = Math.abs(c % 5 - 2) + Math.abs(c / 5 - 2);
            Tried.due("from 12 to " + c, Tried.go(new WatchedHalls(), 0, 11, 12).step(0, c), apart <= 1 ? 3 : STATE);
            Tried.due("at first " + c, new WatchedHalls().step(0, c), 1);
            WatchedHalls wiped = Tried.go(new WatchedHalls(), 0, 11, 12);
            wiped.wipe(0);
            Tried.due("behind a wipe " + c, wiped.step(0, c), 1);
        }
    }

    private static void closedTellsAlone() {
        Tried.by("(The way from the last one to the first one is looked at by closed().)");
        WatchedHalls x = Tried.go(Tried.open(8, 2), 0, 0, 1, 2, 3, 4, 5);
        Tried.due("not closed", x.closed(0), 0);
        for (int t = 0; t < 13; t++) Tried.due("at " + t, x.where(0, t), t % 6);
        x.picture(0, 0);
        x.range(1);
        Tried.due("he is at the picture again all the same", x.gap(0), 4);
        Tried.due("and sees", x.watched(0, 6), 1);
    }

    private static void closedEdges() {
        Tried.by("Whether the first CELL of a ROUND is the same as or a NEIGHBOUR of its last one now: 1, 0 (none: 1).");
        WatchedHalls x = Tried.drawn("..#", "...", "...");
        Tried.due("none", x.closed(0), 1);
        int[] round = {0, 1, 4, 5, 4, 3};
        int[] want = {1, 1, 0, 0, 0, 1};
        for (int n = 0; n < 6; n++) {
            x.step(0, round[n]);
            Tried.due("of " + (n + 1), x.closed(0), want[n]);
        }
        x.wipe(0);
        Tried.due("none again", x.closed(0), 1);
        WatchedHalls row = Tried.go(Tried.open(3, 2), 1, 2, 1, 4, 3);
        Tried.due("the end of a row and the beginning of the next", row.closed(1), 0);
        WatchedHalls column = Tried.go(Tried.open(2, 5), 2, 0, 2, 4, 6, 8);
        Tried.due("the first row and the last", column.closed(2), 0);
        WatchedHalls same = Tried.go(Tried.open(2, 2), 3, 0, 1, 0);
        same.cell(0, WALL);
        Tried.due("the same, though one may not stand there now", same.closed(3), 1);
    }

    private static void wipeEdges() {
        Tried.by("The ROUND of a WATCHER is none: how many CELLS it had.");
        for (int n = 0; n <= 6; n++) {
            WatchedHalls x = new WatchedHalls();
            for (int i = 0; i < n; i++) x.step(1, 7);
            Tried.go(x, 0, 8, 9);
            Tried.go(x, 2, 3);
            Tried.due("of " + n, x.wipe(1), n);
            Tried.due("now none", x.wipe(1), 0);
            Tried.due("where", x.where(1, 0), NONE);
            Tried.due("the others", x.count(3), 2);
            Tried.due("the one ahead", x.where(0, 1), 9);
            Tried.due("the one behind", x.where(2, 1), 3);
            Tried.due("period", x.period(), 2);
        }
    }

    private static void shiftNumbers() {
        Tried.by("and a SHIFT (0 to 5; 0 at first).");
        for (int w = 0; w < 4; w++) {
            WatchedHalls x = new WatchedHalls();
            int was = 0;
            for (int v = -2; v <= 7; v++) {
                boolean may = v >= 0 && v <= 5;
                Tried.due("shift(" + w + ", " + v + ")", x.shift(w, v), may ? was : OUTSIDE);
                was = may ? v : was;
            }
            for (int other = 0; other < 4; other++) Tried.due("watcher " + other, x.shift(other, 0), other == w ? 5 : 0);
        }
    }

    private static void whereWraps() {
        Tried.by("it is in CELL (t and SHIFT) modulo how many its ROUND has.");
        for (int length = 1; length <= 6; length++)
            for (int shift = 0; shift <= 5; shift++) {
                WatchedHalls x = Tried.open(8, 2);
                for (int n = 0; n < length; n++) x.step(3, n);
                x.shift(3, shift);
                for (int t = 0; t <= 13; t++)
                    Tried.due("of " + length + ", shift " + shift + ", at " + t, x.where(3, t), (t + shift) % length);
                for (int t = 9990; t <= 9999; t++)
                    Tried.due("of " + length + ", shift " + shift + ", at " + t, x.where(3, t), (t + shift) % length);
            }
    }

    private static void timeNumbers() {
        Tried.by("CELL of a WATCHER at a TIME (0 to 9999); NONE: it has no ROUND.");
        WatchedHalls x = Tried.go(Tried.open(8, 2), 0, 0, 1, 2);
        x.picture(15, 0);
        Tried.due("where at -1", x.where(0, -1), OUTSIDE);
        Tried.due("where at 0", x.where(0, 0), 0);
        Tried.due("where at 9999", x.where(0, 9999), 0);
        Tried.due("where at 10000", x.where(0, 10000), OUTSIDE);
        Tried.due("no round at -1", x.where(1, -1), OUTSIDE);
        Tried.due("no round at 0", x.where(1, 0), NONE);
        Tried.due("no round at 9999", x.where(1, 9999), NONE);
        Tried.due("no round at 10000", x.where(1, 10000), OUTSIDE);
        Tried.by("Whether a CELL is WATCHED at a TIME: 1, 0.");
        Tried.due("watched at -1", x.watched(0, -1), OUTSIDE);
        Tried.due("watched at 0", x.watched(0, 0), 1);
        Tried.due("watched at 9999", x.watched(0, 9999), 1);
        Tried.due("watched at 10000", x.watched(0, 10000), OUTSIDE);
        Tried.by("OUTSIDE: time (0 to 9999).");
        x.wipe(0);
        Tried.due("theft at -1", x.theft(0, 0, -1), OUTSIDE);
        Tried.due("theft at 0", x.theft(0, 0, 0), 16);
        Tried.due("theft at 9999", x.theft(0, 0, 9999), 16);
        Tried.due("theft at 10000", x.theft(0, 0, 10000), OUTSIDE);
        Tried.due("its step at -1", x.theftStep(0, 0, -1, 0), OUTSIDE);
        Tried.due("its step at 0", x.theftStep(0, 0, 0, 0), 0);
        Tried.due("its step at 9999", x.theftStep(0, 0, 9999, 0), 0);
        Tried.due("its step at 10000", x.theftStep(0, 0, 10000, 0), OUTSIDE);
    }

    private static void seesNothingThere() {
        Tried.by("If one may not STAND there now, it SEES nothing then.");
        for (int kind = 0; kind <= 3; kind++) {
            WatchedHalls x = Tried.go(Tried.open(4, 2), 0, 0, 1);
            x.picture(0, 0);
            x.picture(3, 2);
            x.cell(0, kind);
            Tried.due("where he is, at 0", x.watched(0, 0), yes(stands(kind)));
            Tried.due("beside him, at 0", x.watched(1, 0), yes(kind == FLOOR));
            Tried.due("beside him, at 1", x.watched(1, 1), 1);
            Tried.due("0 from 1", x.watched(0, 1), yes(kind == FLOOR));
            // the one in 0 is seen from a curtain there at time 0 alone
            Tried.due("gap of the one in 0", x.gap(0), kind == FLOOR ? 0 : kind == CURTAIN ? 1 : NONE);
            Tried.due("gap of the one in 3", x.gap(1), kind == FLOOR ? 0 : 1);
            Tried.due("he is there all the same", x.where(0, 0), 0);
        }
    }

    private static void watchedBySome() {
        Tried.by("WATCHED at a TIME is a CELL that some WATCHER SEES then");
        for (int w = 0; w < 4; w++) {
            WatchedHalls x = Tried.open(8, 8);
            Tried.due("nobody", x.watched(9, 0), 0);
            x.range(1);
            Tried.go(x, w, 9, 9, 10);
            for (int t = 0; t < 6; t++) {
                Tried.due("range 1, at " + t, x.watched(0, t), yes(t % 3 < 2));
                Tried.due("range 1, at " + t, x.watched(11, t), yes(t % 3 == 2));
                Tried.due("two away, at " + t, x.watched(12, t), 0);
            }
            x.cell(0, CURTAIN);
            Tried.due("a curtain", x.watched(0, 0), 0);
            x.cell(0, GLASS);
            Tried.due("glass", x.watched(0, 0), 0);
            Tried.go(x, (w + 1) % 4, 63);
            Tried.due("by the other one", x.watched(54, 2), 1);
            Tried.due("by the first one still", x.watched(8, 1), 1);
        }
    }

    private static void inSight() {
        Tried.by("a PICTURE is in sight then, if it is SEEN from the CELL of some WATCHER.");
        // watched is its cell, but from behind
        WatchedHalls x = Tried.go(Tried.drawn("...", "###"), 0, 0);
        x.picture(1, 0);
        Tried.due("watched", x.watched(1, 0), 1);
        Tried.due("from behind", x.gap(0), NONE);
        Tried.go(x, 3, 1, 0);
        Tried.due("now and then by another", x.gap(0), 1);
        Tried.go(x, 2, 2);
        Tried.due("always", x.gap(0), 0);
    }

    private static void periods() {
        Tried.by("PERIOD: the least number that all lengths of ROUNDS divide (1: none).");
        for (int n = 0; n < 7 * 7 * 7 * 7; n++) {
            int[] lengths = {n % 7, n / 7 % 7, n / 49 % 7, n / 343};
            WatchedHalls x = new WatchedHalls();
            int least = 1;
            for (int w = 0; w < 4; w++) for (int i = 0; i < lengths[w]; i++) x.step(w, 6 * w);
            for (int candidate = 60; candidate >= 1; candidate--) {
                boolean all = true;
                for (int l : lengths) all &= l == 0 || candidate % l == 0;
                if (all) least = candidate;
            }
            Tried.due("lengths " + java.util.Arrays.toString(lengths), x.period(), least);
        }
    }

    private static void watchersWithRound() {
        Tried.by("WATCHERS with a ROUND (3)");
        WatchedHalls x = new WatchedHalls();
        for (int w = 0; w < 4; w++) {
            Tried.due("so many", x.count(3), w);
            x.shift(w, 5);
            Tried.due("a shift is no round", x.count(3), w);
            Tried.go(x, w, 0, 1);
        }
        Tried.due("all", x.count(3), 4);
        x.cell(0, WALL);
        x.cell(1, GLASS);
        Tried.due("though one may not stand there now", x.count(3), 4);
        for (int w = 3; w >= 0; w--) {
            x.wipe(w);
            Tried.due("so many", x.count(3), w);
        }
    }

    // ---- 3 gaps

    /**
     * Cell 1 is a curtain with a picture, so it is in sight at just the times when a watcher is in it;
     * elsewhere all watchers are in cell 4 below, which becomes a wall.
     */
    private static WatchedHalls byTimes(int[]... rounds) {
        WatchedHalls x = Tried.drawn("%%%", "#.#");
        Tried.hangInCurtain(x, 1);
        for (int w = 0; w < rounds.length; w++)
            for (int at : rounds[w]) x.step(w, at == 1 ? 1 : 4);
        x.cell(4, WALL);
        return x;
    }

    private static void gapTerms() {
        gapNever();
        gapLeastAndMost();
        gapWraps();
        gapOfSeveral();
        worstOfNone();
        worstNone();
        worstIsGreatest();
    }

    private static void gapNever() {
        Tried.by("NONE: it never is.");
        Tried.due("nobody", byTimes().gap(0), NONE);
        Tried.due("never there", byTimes(new int[] {0}).gap(0), NONE);
        Tried.due("never there", byTimes(new int[] {0, 0, 0, 0, 0, 0}, new int[] {0, 0}).gap(0), NONE);
        Tried.due("once there", byTimes(new int[] {0, 0, 0, 0, 0, 1}, new int[] {0, 0}).gap(0), 5);
        WatchedHalls x = byTimes(new int[] {1});
        x.cell(1, GLASS);
        Tried.due("one may not stand there now", x.gap(0), NONE);
        x.cell(1, CURTAIN);
        x.wipe(0);
        Tried.due("nobody any more", x.gap(0), NONE);
    }

    private static void gapLeastAndMost() {
        Tried.by("the greatest number of TIMES one behind another at which it is not in sight, going on for ever;");
        for (int length = 1; length <= 6; length++)
            for (int shift = 0; shift <= 5; shift++) {
                int[] once = new int[length];
                once[length - 1] = 1;
                WatchedHalls x = byTimes(once);
                x.shift(0, shift);
                Tried.due("once of " + length, x.gap(0), length - 1);
                int[] always = new int[length];
                java.util.Arrays.fill(always, 1);
                WatchedHalls y = byTimes(always);
                y.shift(0, shift);
                Tried.due("always of " + length, y.gap(0), 0);
            }
    }

    private static void gapWraps() {
        Tried.by("the greatest number of TIMES one behind another at which it is not in sight, going on for ever;");
        // each round of 6 there is: the longest run without, round the end
        for (int set = 1; set < 64; set++) {
            int[] round = new int[6];
            for (int i = 0; i < 6; i++) round[i] = set >> i & 1;
            int longest = 0, run = 0;
            for (int t = 0; t < 18; t++) {
                run = round[t % 6] == 1 ? 0 : run + 1;
                longest = Math.max(longest, run);
            }
            for (int shift = 0; shift <= 5; shift++) {
                WatchedHalls x = byTimes(round);
                x.shift(0, shift);
                Tried.due("times " + java.util.Arrays.toString(round) + ", shift " + shift, x.gap(0), longest);
            }
        }
        Tried.due("out at the end and at the beginning", byTimes(new int[] {0, 0, 1, 0, 0, 0}).gap(0), 5);
    }

    private static void gapOfSeveral() {
        Tried.by("the greatest number of TIMES one behind another at which it is not in sight, going on for ever;");
        int[] six = {1, 0, 0, 0, 0, 0}, five = {1, 0, 0, 0, 0}, four = {1, 0, 0, 0}, two = {1, 0};
        // times 0, 4, 6, 8 of 12
        Tried.due("6 and 4", byTimes(six, four).gap(0), 3);
        WatchedHalls x = byTimes(six, four);
        x.shift(1, 1);
        // times 0, 3, 6, 7, 11 of 12: out at 8, 9, 10
        Tried.due("6 and 4, shifted by 1", x.gap(0), 3);
        x.shift(1, 2);
        // times 0, 2, 6, 10 of 12
        Tried.due("6 and 4, shifted by 2", x.gap(0), 3);
        // of 60: 1, 2, 3 are out, and never 4 one behind another
        Tried.due("6, 5 and 4", byTimes(six, five, four).gap(0), 3);
        // of 30: from 6 to 10, 20 to 24 and so on 3 are out; 0, 5, 6, 10, 12, 15, 18, 20, 24, 25: 1 to 4 are
        Tried.due("6 and 5", byTimes(six, five).gap(0), 4);
        WatchedHalls pair = byTimes(two, two);
        Tried.due("2 and 2 alike", pair.gap(0), 1);
        pair.shift(1, 1);
        Tried.due("2 and 2 in turn", pair.gap(0), 0);
    }

    private static void worstOfNone() {
        Tried.by("THE WORST GAP of all PICTURES (0: none; NONE: if of some it is).");
        WatchedHalls x = new WatchedHalls();
        Tried.due("no pictures, no rounds", x.worst(), 0);
        Tried.go(x, 0, 0, 1);
        Tried.due("no pictures", x.worst(), 0);
        x.picture(24, 0);
        Tried.due("one behind which they are", x.worst(), NONE);
        x.hall(5, 5);
        Tried.due("none again", x.worst(), 0);
    }

    private static void worstNone() {
        Tried.by("THE WORST GAP of all PICTURES (0: none; NONE: if of some it is).");
        for (int hidden = 0; hidden < 8; hidden++) {
            WatchedHalls x = Tried.open(8, 2);
            for (int n = 0; n < 8; n++) x.picture(n, 1);
            Tried.due("nobody", x.worst(), NONE);
            Tried.go(x, 3, 15);
            Tried.due("always in sight", x.worst(), 0);
            x.cell(hidden, CURTAIN);
            Tried.due("one is never", x.worst(), NONE);
            Tried.due("its gap", x.gap(hidden), NONE);
            Tried.due("another's gap", x.gap((hidden + 1) % 8), 0);
        }
    }

    private static void worstIsGreatest() {
        Tried.by("THE WORST GAP of all PICTURES (0: none; NONE: if of some it is).");
        // he stays n times in cell n - 1: gap of the picture there is 6 less n
        WatchedHalls x = Tried.drawn("...", "...");
        for (int c = 0; c < 3; c++) Tried.hangInCurtain(x, c);
        Tried.go(x, 0, 0, 1, 1, 2, 2, 2);
        Tried.due("of 0", x.gap(0), 5);
        Tried.due("of 1", x.gap(1), 4);
        Tried.due("of 2", x.gap(2), 3);
        Tried.due("the first one's", x.worst(), 5);
        Tried.go(x, 1, 0, 0, 1);
        Tried.due("of 0", x.gap(0), 1);
        Tried.due("of 1", x.gap(1), 2);
        Tried.due("the last one's", x.worst(), 3);
        Tried.go(x, 2, 2);
        Tried.due("the middle one's", x.worst(), 2);
    }

    // ---- 3 the best shifts

    private static void shiftTerms() {
        shiftsBelowLength();
        shiftsOfNone();
        shiftsNoneBehindAll();
        shiftsLeastGap();
        shiftsGreatest();
        shiftsOfLikeOnes();
        shiftsAnew();
        shiftsTriedAll();
    }

    private static void shiftsBelowLength() {
        Tried.by("THE BEST SHIFTS (each below the length of its ROUND; 0 without one)");
        for (int length = 1; length <= 6; length++) {
            // two who are there at one time of so many: the second is shifted by half of it, or one less
            int[] once = new int[length];
            once[0] = 1;
            WatchedHalls x = byTimes(once, once);
            x.shift(0, 5);
            x.shift(1, 5);
            x.shift(2, 5);
            x.shift(3, 5);
            int gap = length == 1 ? 0 : (length + 1) / 2 - 1;
            Tried.due("two of " + length, x.arrange(), gap);
            Tried.due("set", Tried.shiftsOf(x), 0, length / 2, 0, 0);
            Tried.due("worst then", x.worst(), gap);
        }
    }

    private static void shiftsOfNone() {
        Tried.by("THE BEST SHIFTS are set: THE WORST GAP then.");
        WatchedHalls x = new WatchedHalls();
        for (int w = 0; w < 4; w++) x.shift(w, w + 2);
        Tried.due("no pictures, no rounds", x.arrange(), 0);
        Tried.due("all 0", Tried.shiftsOf(x), 0, 0, 0, 0);
        for (int w = 0; w < 4; w++) {
            Tried.go(x, w, 0, 1, 2, 3, 4, 9);
            x.shift(w, w + 2);
        }
        Tried.due("no pictures", x.arrange(), 0);
        Tried.due("all least", Tried.shiftsOf(x), 0, 0, 0, 0);
        Tried.due("the rounds stay", x.where(3, 5), 9);
    }

    private static void shiftsNoneBehindAll() {
        Tried.by("least WORST GAP (NONE is behind all)");
        WatchedHalls x = byTimes();
        for (int w = 0; w < 4; w++) x.shift(w, 5);
        Tried.due("nobody", x.arrange(), NONE);
        Tried.due("all least", Tried.shiftsOf(x), 0, 0, 0, 0);
        WatchedHalls y = byTimes(new int[] {0, 0}, new int[] {0, 0, 0});
        for (int w = 0; w < 4; w++) y.shift(w, 5);
        Tried.due("never there", y.arrange(), NONE);
        Tried.due("all least", Tried.shiftsOf(y), 0, 0, 0, 0);
        WatchedHalls z = byTimes(new int[] {0, 1}, new int[] {0, 1});
        z.cell(0, FLOOR);
        z.picture(0, 0);
        z.shift(1, 1);
        Tried.due("one of two is never in sight", z.arrange(), NONE);
        Tried.due("all least, not least gap of the other", Tried.shiftsOf(z), 0, 0, 0, 0);
        Tried.due("the other's gap then", z.gap(0), 1);
    }

    private static void shiftsLeastGap() {
        Tried.by("least WORST GAP (NONE is behind all)");
        int[] two = {1, 0}, three = {1, 0, 0}, four = {1, 0, 0, 0};
        WatchedHalls x = byTimes(two, two);
        Tried.due("two in turn", x.arrange(), 0);
        Tried.due("shifts", Tried.shiftsOf(x), 0, 1, 0, 0);
        WatchedHalls y = byTimes(three, three, three);
        Tried.due("three in turn", y.arrange(), 0);
        Tried.due("shifts", Tried.shiftsOf(y), 0, 1, 2, 0);
        WatchedHalls z = byTimes(four, four, four, four);
        Tried.due("four in turn", z.arrange(), 0);
        Tried.due("shifts", Tried.shiftsOf(z), 0, 1, 2, 3);
        Tried.due("again", z.arrange(), 0);
        Tried.due("the same shifts", Tried.shiftsOf(z), 0, 1, 2, 3);
        WatchedHalls only = byTimes(new int[] {}, new int[] {}, new int[] {}, four);
        only.shift(3, 3);
        Tried.due("one alone", only.arrange(), 3);
        Tried.due("shifts", Tried.shiftsOf(only), 0, 0, 0, 0);
    }

    private static void shiftsGreatest() {
        Tried.by("THE BEST SHIFTS (each below the length of its ROUND; 0 without one)");
        // 1 has five times of six, and the one that he leaves out is filled in by one shift alone
        for (int best = 0; best <= 5; best++) {
            int[] once = new int[6];
            once[(5 + best) % 6] = 1;
            WatchedHalls x = byTimes(new int[] {1, 1, 1, 1, 1, 0}, once);
            Tried.due("the fitting one", x.arrange(), 0);
            Tried.due("shifts", Tried.shiftsOf(x), 0, best, 0, 0);
        }
        // pictures in curtains 1 and 2: watcher 0 is there at 0 and 1, so 1 has to come at 3 and 2 at 4
        WatchedHalls x = Tried.drawn("%%%", "...");
        Tried.hangInCurtain(x, 1);
        Tried.hangInCurtain(x, 2);
        Tried.go(x, 0, 1, 2, 5, 4, 4, 4);
        Tried.go(x, 1, 4, 4, 1, 4, 4, 4);
        Tried.go(x, 2, 5, 5, 5, 2, 5, 5);
        for (int c = 3; c < 6; c++) x.cell(c, WALL);
        Tried.due("two pictures", x.arrange(), 2);
        Tried.due("the last shifts of all", Tried.shiftsOf(x), 0, 5, 5, 0);
    }

    private static void shiftsAnew() {
        Tried.by("THE BEST SHIFTS are set: THE WORST GAP then.");
        WatchedHalls x = byTimes(new int[] {1, 0}, new int[] {1, 0});
        Tried.due("two in turn", x.arrange(), 0);
        Tried.due("shifts", Tried.shiftsOf(x), 0, 1, 0, 0);
        x.step(2, 1);
        Tried.due("a third one is always there", x.arrange(), 0);
        Tried.due("all least now", Tried.shiftsOf(x), 0, 0, 0, 0);
        x.wipe(2);
        Tried.due("without him", x.arrange(), 0);
        Tried.due("shifts", Tried.shiftsOf(x), 0, 1, 0, 0);
        x.wipe(1);
        Tried.due("one alone", x.arrange(), 1);
        Tried.due("all least", Tried.shiftsOf(x), 0, 0, 0, 0);
    }

    private static void shiftsOfLikeOnes() {
        Tried.by("of like ones the least SHIFT of WATCHER 0, then of 1, ..");
        int[] three = {1, 0, 0};
        // of two of three times each, 1 or 2 for the second one are like
        WatchedHalls x = byTimes(three, three);
        x.shift(1, 2);
        Tried.due("two of three", x.arrange(), 1);
        Tried.due("the lesser", Tried.shiftsOf(x), 0, 1, 0, 0);
        // 0 for the second one, as the third then fills in all the same
        WatchedHalls y = byTimes(new int[] {1, 0}, new int[] {1, 0}, new int[] {1, 0});
        Tried.due("the third one is shifted", y.arrange(), 0);
        Tried.due("least of 1, then of 2", Tried.shiftsOf(y), 0, 0, 1, 0);
        // the second is never there: his shift is of no matter
        WatchedHalls z = byTimes(new int[] {1, 0}, new int[] {0, 0, 0, 0, 0}, new int[] {}, new int[] {1, 0});
        for (int w = 0; w < 4; w++) z.shift(w, 1);
        Tried.due("the last one is shifted", z.arrange(), 0);
        Tried.due("least of 1", Tried.shiftsOf(z), 0, 0, 0, 1);
    }

    /** All shifts, tried one by one on an object each: arrange() must set the first of the best. */
    private static void shiftsTriedAll() {
        Tried.by("least WORST GAP (NONE is behind all); of like ones the least SHIFT of WATCHER 0, then of 1, ..");
        int[][][] halls = {
            {{1, 0, 0, 0, 0, 0}, {1, 0, 0, 0, 0}, {1, 0, 0, 0}},
            {{1, 0, 0, 0, 0, 0}, {1, 0, 0, 0, 0, 0}, {1, 1, 0, 0}},
            {{0, 0, 1, 0, 0, 0}, {0, 1, 0, 0}, {0, 0, 1}},
            {{0, 1, 0, 0, 1, 0}, {0, 0, 0, 1, 0, 0}, {0, 1}},
            {{0, 0, 0, 0, 1}, {0, 0, 1, 0}, {}, {0, 0, 0, 0, 0, 1}},
            {{}, {0, 0, 0, 1}, {0, 1, 0, 0, 0, 0}, {0, 0, 0, 0, 0, 1}}};
        for (int[][] rounds : halls) {
            int[] best = new int[4];
            int least = MANY;
            int[] lengths = new int[4];
            for (int w = 0; w < 4; w++) lengths[w] = w < rounds.length ? Math.max(1, rounds[w].length) : 1;
            int all = lengths[0] * lengths[1] * lengths[2] * lengths[3];
            for (int n = 0; n < all; n++) {
                int rest = n;
                int[] shifts = new int[4];
                for (int w = 3; w >= 0; w--) {
                    shifts[w] = rest % lengths[w];
                    rest /= lengths[w];
                }
                WatchedHalls x = byTimes(rounds);
                for (int w = 0; w < 4; w++) x.shift(w, shifts[w]);
                if (x.worst() < least) {
                    least = x.worst();
                    best = shifts;
                }
            }
            WatchedHalls x = byTimes(rounds);
            for (int w = 0; w < 4; w++) x.shift(w, 5 - w);
            Tried.due("worst gap then", x.arrange(), least);
            Tried.due("shifts", Tried.shiftsOf(x), best);
            Tried.due("it is so", x.worst(), least);
        }
    }

    private static final int MANY = 1000;

    // ---- 4 thefts

    private static void theftTerms() {
        theftOfNoTimes();
        theftStandsThere();
        theftNeighbours();
        theftUnseen();
        theftUnseenWhileThere();
        theftLongest();
        theftNone();
        theftAnew();
        theftOrder();
        theftStepNumbers();
        theftBeyondTimes();
        goodHours();
        goodHoursOfAll();
    }

    /**
     * A corridor of curtains 0, 1, 2 with the picture in 2; at the times of the round that are 1 there is
     * a watcher in cell 1, and sees that cell alone; at others he is in 4, which becomes a wall.
     */
    private static WatchedHalls corridor(int... round) {
        WatchedHalls x = Tried.drawn("%%%", "#.#");
        Tried.hangInCurtain(x, 2);
        for (int at : round) x.step(0, at == 1 ? 1 : 4);
        x.cell(4, WALL);
        return x;
    }

    private static void theftOfNoTimes() {
        Tried.by("he comes to the CELL of the PICTURE and back. It takes as many TIMES as go by;");
        WatchedHalls x = new WatchedHalls();
        x.picture(24, 0);
        Tried.due("from its cell", x.theft(0, 24, 0), 0);
        Tried.due("no step", x.theftStep(0, 24, 0, 0), NONE);
        Tried.due("hours", x.hours(0, 24), 1);
        Tried.due("from beside", x.theft(0, 23, 0), 2);
        Tried.due("from the far corner", x.theft(0, 0, 0), 16);
        x.cell(24, CURTAIN);
        Tried.due("from its cell, a curtain", x.theft(0, 24, 0), 0);
        x.cell(24, WALL);
        Tried.due("from its cell, a wall", x.theft(0, 24, 0), NONE);
        x.cell(24, GLASS);
        Tried.due("from its cell, glass", x.theft(0, 24, 0), NONE);
        x.cell(24, FLOOR);
        Tried.go(x, 0, 0, 0);
        x.cell(1, WALL);
        Tried.due("watched there", x.theft(0, 24, 0), NONE);
        Tried.due("hours", x.hours(0, 24), 0);
    }

    private static void theftStandsThere() {
        Tried.by("the THIEF stands there then;");
        for (int kind = 0; kind <= 3; kind++) {
            WatchedHalls x = Tried.open(2, 2);
            x.picture(3, 0);
            x.cell(0, kind);
            Tried.due("from kind " + kind, x.theft(0, 0, 0), stands(kind) ? 4 : NONE);
            Tried.due("its first step", x.theftStep(0, 0, 0, 0), stands(kind) ? 0 : NONE);
            Tried.due("its hours", x.hours(0, 0), stands(kind) ? 1 : 0);
        }
        // watched at the time at which he is to stand there
        WatchedHalls x = corridor(1, 0, 0);
        Tried.due("from 1 at 0", x.theft(0, 1, 0), NONE);
        Tried.due("from 1 at 1", x.theft(0, 1, 1), 3);
        Tried.due("from 1 at 2", x.theft(0, 1, 2), 2);
        Tried.due("from 1 at 3", x.theft(0, 1, 3), NONE);
        Tried.due("good hours", x.hours(0, 1), 2);
    }

    private static void theftNeighbours() {
        Tried.by("with each TIME that goes by he stays or goes to a NEIGHBOUR;");
        WatchedHalls x = Tried.drawn("..", "..");
        x.picture(3, 0);
        Tried.due("not aslant", x.theft(0, 0, 0), 4);
        x.cell(1, GLASS);
        Tried.due("not through glass", Tried.theftOf(x, 0, 0, 0), 1, 0, 2, 3);
        x.cell(2, WALL);
        Tried.due("nor a wall", x.theft(0, 0, 0), NONE);
        WatchedHalls rows = Tried.drawn("..", "#.");
        rows.picture(0, 0);
        Tried.due("a hall of two", Tried.theftOf(rows, 0, 3, 0), 3, 2, 0, 1);
        WatchedHalls ends = Tried.drawn("...", ".##", "..#");
        ends.picture(2, 0);
        Tried.due("not from the end of a row to the next", ends.theft(0, 3, 0), 6);
    }

    private static void theftUnseen() {
        Tried.by("at no TIME is his CELL WATCHED;");
        // cell 1 is watched at 0 of each 6; to go and come at once he is in it at t + 1 and t + 3
        WatchedHalls x = corridor(1, 0, 0, 0, 0, 0);
        Tried.due("from 0 at 0", Tried.theftOf(x, 0, 0, 0), 0, 0, 2, 2);
        Tried.due("from 0 at 1", Tried.theftOf(x, 0, 0, 1), 0, 0, 2, 2);
        Tried.due("from 0 at 2", Tried.theftOf(x, 0, 0, 2), 0, 0, 2, 2);
        Tried.due("from 0 at 3 he waits at the picture", Tried.theftOf(x, 0, 0, 3), 0, 0, 4, 2, 2);
        Tried.due("from 0 at 4", Tried.theftOf(x, 0, 0, 4), 0, 0, 2, 2);
        Tried.due("from 0 at 5 he waits at once", Tried.theftOf(x, 0, 0, 5), 4, 0, 0, 2, 2);
        Tried.due("from 0 at 6 as at 0", Tried.theftOf(x, 0, 0, 6), 0, 0, 2, 2);
        // the last time counts too, and the first
        Tried.due("from 1 at 4: back at 6 he would be seen", Tried.theftOf(x, 0, 1, 4), 0, 4, 2);
        Tried.due("from 1 at 5", Tried.theftOf(x, 0, 1, 5), 0, 2);
        Tried.due("from 1 at 0", x.theft(0, 1, 0), NONE);
        Tried.due("hours from 0", x.hours(0, 0), 6);
        Tried.due("hours from 1", x.hours(0, 1), 5);
        x.shift(0, 5);
        Tried.due("shifted by 5: 1 is watched at 1", Tried.theftOf(x, 0, 0, 0), 4, 0, 0, 2, 2);
    }

    private static void theftUnseenWhileThere() {
        Tried.by("at no TIME is his CELL WATCHED;");
        // the picture's own cell 1 is free at one time of six
        WatchedHalls x = Tried.drawn("%%%", "#.#");
        Tried.hangInCurtain(x, 1);
        Tried.go(x, 0, 1, 1, 1, 1, 1, 4);
        x.cell(4, WALL);
        Tried.due("from 0 at 4", Tried.theftOf(x, 0, 0, 4), 0, 2);
        Tried.due("from 0 at 5", Tried.theftOf(x, 0, 0, 5), 4, 4, 4, 4, 4, 0, 2);
        Tried.due("from 2 at 3", Tried.theftOf(x, 0, 2, 3), 4, 2, 0);
        Tried.due("from its own cell at 5", x.theft(0, 1, 5), 0);
        Tried.due("from its own cell at 4", x.theft(0, 1, 4), NONE);
        Tried.due("hours there", x.hours(0, 1), 1);
        Tried.due("hours beside", x.hours(0, 0), 6);
        x.step(1, 1);
        Tried.due("always one there", x.theft(0, 0, 4), NONE);
        Tried.due("no hours", x.hours(0, 0), 0);
    }

    private static void theftLongest() {
        Tried.by("THE SOONEST: fewest;");
        WatchedHalls x = winding();
        x.picture(56, 0);
        Tried.due("all the way and back", x.theft(0, 0, 0), 70);
        int[] d = Tried.theftOf(x, 0, 0, 0);
        for (int i = 0; i < 35; i++) Tried.due("back as there", d[69 - i], (d[i] + 2) % 4);
        Tried.due("no more", x.theftStep(0, 0, 0, 70), NONE);
        // in a gallery of curtains three watchers leave 1 free at one time of 60
        WatchedHalls y = Tried.drawn("%%%", "#.#");
        Tried.hangInCurtain(y, 2);
        Tried.go(y, 0, 4, 1, 1, 1);
        Tried.go(y, 1, 4, 1, 1, 1, 1);
        Tried.go(y, 2, 4, 1, 1);
        y.cell(4, WALL);
        Tried.due("period", y.period(), 60);
        // free at 60 and at 120: he goes by 1 at these
        Tried.due("at 59", y.theft(0, 0, 59), 62);
        Tried.due("at 60 he waits", y.theft(0, 0, 60), 121);
        Tried.due("at 0 he waits", y.theft(0, 0, 0), 121);
        Tried.due("at 58", y.theft(0, 0, 58), 63);
        int[] waits = Tried.theftOf(y, 0, 0, 0);
        for (int i = 0; i < 121; i++)
            Tried.due("step " + i, waits[i], i == 59 || i == 60 ? 0 : i == 119 || i == 120 ? 2 : 4);
        Tried.due("hours", y.hours(0, 0), 60);
        Tried.due("hours from 1", y.hours(0, 1), 1);
        Tried.due("from 1 at 60", y.theft(0, 1, 60), 60);
    }

    private static void theftNone() {
        Tried.by("NONE: there is none.");
        WatchedHalls x = corridor(1);
        Tried.due("always watched on the way", x.theft(0, 0, 0), NONE);
        Tried.due("no step", x.theftStep(0, 0, 0, 0), NONE);
        Tried.due("no hours", x.hours(0, 0), 0);
        Tried.due("from the other side", x.theft(0, 2, 0), 0);
        x.wipe(0);
        Tried.due("nobody", x.theft(0, 0, 0), 4);
        x.cell(1, WALL);
        Tried.due("no way", x.theft(0, 0, 0), NONE);
        // he comes there but not back: 1 is free at 1 alone of two, and 2 at 0 alone
        WatchedHalls y = Tried.drawn("%%%", "#.#");
        Tried.hangInCurtain(y, 2);
        Tried.go(y, 0, 1, 4);
        y.cell(4, WALL);
        Tried.go(y, 1, 1, 2);
        Tried.due("1 is watched at each 0, 2 at each 1", y.theft(0, 0, 0), 4);
        y.shift(1, 1);
        Tried.due("1 is watched at all times", y.theft(0, 0, 0), NONE);
        Tried.due("no hours", y.hours(0, 0), 0);
    }

    private static void theftAnew() {
        Tried.by("NONE: there is none.");
        WatchedHalls x = Tried.drawn("....", "####");
        x.picture(3, 0);
        Tried.due("there and back", x.theft(0, 0, 0), 6);
        for (int shut = 1; shut <= 3; shut++) {
            x.cell(shut, GLASS);
            Tried.due("shut at " + shut, x.theft(0, 0, 0), NONE);
            Tried.due("no step", x.theftStep(0, 0, 0, 0), NONE);
            Tried.due("no hours", x.hours(0, 0), 0);
            x.cell(shut, CURTAIN);
            Tried.due("there and back again", x.theft(0, 0, 0), 6);
            Tried.due("its hours", x.hours(0, 0), 1);
        }
        x.step(0, 2);
        Tried.due("a watcher in the curtain 2", x.theft(0, 0, 0), NONE);
        x.wipe(0);
        Tried.due("he is away", x.theft(0, 0, 0), 6);
        // the second search comes to as many states as the first had ahead of its end
        WatchedHalls y = Tried.drawn("..", "##");
        y.picture(1, 0);
        Tried.due("there and back", y.theft(0, 0, 0), 2);
        y.cell(1, WALL);
        y.cell(2, FLOOR);
        Tried.due("another way, but not there", y.theft(0, 0, 0), NONE);
    }

    private static void theftOrder() {
        Tried.by("of like ones the first by steps: 0 to 3 as FACINGS, 4 he stays.");
        int[] corners = {8, 6, 0, 2};
        int[][] ways = {{0, 1, 2, 3}, {1, 2, 0, 3}, {2, 3, 0, 1}, {0, 3, 1, 2}};
        for (int n = 0; n < 4; n++) {
            WatchedHalls x = Tried.open(3, 3);
            x.picture(corners[n], 0);
            Tried.due("to " + corners[n], Tried.theftOf(x, 0, 4, 7), ways[n]);
        }
        int[] places = {5, 7, 3, 1};
        for (int f = 0; f < 4; f++) {
            WatchedHalls x = Tried.open(3, 3);
            x.picture(places[f], 0);
            Tried.due("straight on " + f, Tried.theftOf(x, 0, 4, 7), f, (f + 2) % 4);
        }
        // he must lose one time: to stay comes last of all, so he stays as late as he may
        WatchedHalls late = corridor(0, 0, 0, 1, 0, 0);
        Tried.due("he stays at the picture", Tried.theftOf(late, 0, 0, 0), 0, 0, 4, 2, 2);
        WatchedHalls ahead = Tried.drawn("%##", "%%%", "###");
        Tried.hangInCurtain(ahead, 5);
        Tried.go(ahead, 0, 4, 4, 5);
        // 4 is free at 2, 5, .. and 5 between: he has no time for a way up and down
        Tried.due("he stays twice", Tried.theftOf(ahead, 0, 3, 0), 4, 0, 0, 4, 2, 2);
        ahead.wipe(0);
        ahead.cell(1, FLOOR);
        Tried.go(ahead, 0, 4, 4, 1, 1, 1, 1);
        ahead.cell(1, WALL);
        Tried.due("4 is watched at 0, 1: at 0", Tried.theftOf(ahead, 0, 3, 0), 4, 0, 0, 2, 2);
        // he must lose two: a way there and back, 3 and 1, is ahead of staying
        Tried.due("at 5", Tried.theftOf(ahead, 0, 3, 5), 3, 1, 0, 0, 2, 2);
    }

    private static void theftStepNumbers() {
        Tried.by("Step i of it; NONE. As theft().");
        WatchedHalls x = corridor();
        Tried.due("step -1", x.theftStep(0, 0, 0, -1), NONE);
        Tried.due("step 0", x.theftStep(0, 0, 0, 0), 0);
        Tried.due("step 3", x.theftStep(0, 0, 0, 3), 2);
        Tried.due("step 4", x.theftStep(0, 0, 0, 4), NONE);
        Tried.due("of a theft of no times", x.theftStep(0, 2, 0, 0), NONE);
        Tried.due("from a wall", x.theftStep(0, 3, 0, 0), NONE);
    }

    private static void theftBeyondTimes() {
        Tried.by("OUTSIDE: time (0 to 9999).");
        // 9999 is 3 of each 6: the theft goes on behind 9999
        WatchedHalls x = corridor(1, 0, 0, 0, 0, 0);
        Tried.due("at 9998", Tried.theftOf(x, 0, 0, 9998), 0, 0, 2, 2);
        Tried.due("at 9999", Tried.theftOf(x, 0, 0, 9999), 0, 0, 4, 2, 2);
        x.shift(0, 2);
        // 1 is watched at 4 of each 6
        Tried.due("at 9999, shifted", Tried.theftOf(x, 0, 0, 9999), 4, 0, 0, 2, 2);
    }

    private static void goodHours() {
        Tried.by("GOOD HOURS: TIMES 0 to PERIOD less 1 from which there is a THEFT.");
        WatchedHalls x = corridor();
        Tried.due("no rounds: of one", x.hours(0, 0), 1);
        for (int length = 1; length <= 6; length++) {
            int[] once = new int[length];
            once[0] = 1;
            WatchedHalls y = corridor(once);
            // from 1 he needs another time than the watched one; from 0 two with a way between
            Tried.due("from 1, once of " + length, y.hours(0, 1), length - 1);
            Tried.due("from 0, once of " + length, y.hours(0, 0), length == 1 ? 0 : length);
            Tried.due("from 2", y.hours(0, 2), length);
            Tried.due("from the wall", y.hours(0, 3), 0);
        }
        WatchedHalls z = corridor(1, 0, 1, 0, 1, 1);
        Tried.due("of 1 and 3", z.hours(0, 1), 2);
        Tried.due("each one alone", z.theft(0, 1, 1), 2);
        Tried.due("and then till the next round", z.theft(0, 1, 3), 4);
    }

    private static void goodHoursOfAll() {
        Tried.by("GOOD HOURS: TIMES 0 to PERIOD less 1 from which there is a THEFT.");
        // each time of the period asked one by one
        for (int set = 0; set < 64; set++) {
            int[] round = new int[6];
            for (int i = 0; i < 6; i++) round[i] = set >> i & 1;
            for (int cell = 0; cell < 3; cell++) {
                WatchedHalls x = corridor(round);
                Tried.go(x, 1, 2, 2, 1, 2);
                int many = 0;
                for (int t = 0; t < 12; t++) many += yes(x.theft(0, cell, t) != NONE);
                Tried.due("round " + set + " from " + cell, x.hours(0, cell), many);
                for (int t = 0; t < 12; t++)
                    Tried.due("the same a period later", x.theft(0, cell, t + 12), x.theft(0, cell, t));
            }
        }
    }

    // ---- 5 turned

    private static void turnTerms() {
        turnPlaces();
        turnFacings();
        turnedIsUsed();
        turnRounds();
        turnFourTimes();
        mirrorPlaces();
        mirrorFacings();
        mirrorRounds();
        mirrorCounts();
        countWhat();
    }

    private static void turnPlaces() {
        Tried.by("TO TURN the HALL: CELL x, y becomes H - 1 - y, x (W and H change);");
        for (int[] size : HALLS) {
            int w = size[0], h = size[1];
            for (int y = 0; y < h; y++)
                for (int x = 0; x < w; x++) {
                    WatchedHalls a = Tried.open(w, h);
                    a.picture(y * w + x, 0);
                    Tried.go(a, 0, y * w + x);
                    a.cell(y * w + x, CURTAIN);
                    Tried.due("W then", a.turn(), h);
                    Tried.due("W", a.count(0), h);
                    Tried.due("H", a.count(1), w);
                    int place = x * h + h - 1 - y;
                    for (int c = 0; c < w * h; c++) Tried.due("kind " + c, a.kind(c), c == place ? CURTAIN : FLOOR);
                    Tried.due("the picture", a.about(0, 0), place);
                    Tried.due("the round", a.where(0, 0), place);
                    Tried.due("one more cell is not there", a.kind(w * h), UNKNOWN);
                }
        }
    }

    private static void turnFacings() {
        Tried.by("FACINGS go on by one, round;");
        WatchedHalls x = new WatchedHalls();
        for (int f = 0; f < 4; f++) x.picture(f, f);
        for (int n = 1; n <= 5; n++) {
            x.turn();
            for (int f = 0; f < 4; f++) Tried.due("facing " + f + " turned " + n, x.about(f, 1), (f + n) % 4);
        }
        // what is seen turns with it
        WatchedHalls y = Tried.open(3, 2);
        for (int f = 0; f < 4; f++) y.picture(1, f);
        int seen = y.from(0);
        y.turn();
        Tried.due("from where 0 is now", y.from(1), seen);
    }

    /** Kinds, neighbours and sight are those of the new places, with all pictures that there may be. */
    private static void turnedIsUsed() {
        Tried.by("TO TURN the HALL: CELL x, y becomes H - 1 - y, x (W and H change);");
        String[] rows = {"..#.%", ".=...", "..%#.", "....."};
        for (int way = 0; way < 2; way++) {
            WatchedHalls old = Tried.drawn(rows);
            WatchedHalls now = Tried.drawn(rows);
            for (WatchedHalls x : new WatchedHalls[] {old, now})
                for (int p = 0; p < 8; p++) x.picture(p < 2 ? p : 13 + p - p / 7 * 4, p % 4);
            Tried.due("all pictures", now.count(2), 8);
            if (way == 0) Tried.due("W then", now.turn(), 4);
            else Tried.due("two cells of another kind in each row but the last", now.mirror(), 6);
            Tried.due("one stands on as many", now.count(4), old.count(4));
            Tried.due("as few", now.fewest(), old.fewest());
            for (int a = 0; a < 20; a++) {
                int placeA = way == 0 ? a % 5 * 4 + 3 - a / 5 : a / 5 * 5 + 4 - a % 5;
                Tried.due("view of " + a, now.view(placeA), old.view(a));
                Tried.due("pictures from " + a, now.from(placeA), old.from(a));
                Tried.due("tour from " + a, now.tour(placeA), old.tour(a));
                Tried.due("theft from " + a, now.theft(7, placeA, 0), old.theft(7, a, 0));
                for (int b = 0; b < 20; b += 3) {
                    int placeB = way == 0 ? b % 5 * 4 + 3 - b / 5 : b / 5 * 5 + 4 - b % 5;
                    Tried.due("from " + a + " to " + b, now.far(placeA, placeB), old.far(a, b));
                    Tried.due(a + " sees " + b, now.sees(placeA, placeB), old.sees(a, b));
                }
            }
        }
    }

    private static void turnRounds() {
        Tried.by("ROUNDS go with it.");
        WatchedHalls x = Tried.open(8, 2);
        for (int w = 0; w < 4; w++) {
            Tried.go(x, w, 2 * w, 2 * w, 2 * w + 1, 2 * w + 9, 2 * w + 8, 2 * w);
            x.shift(w, 2 + w);
        }
        Tried.due("W", x.turn(), 2);
        for (int w = 0; w < 4; w++) {
            int[] round = {2 * w, 2 * w, 2 * w + 1, 2 * w + 9, 2 * w + 8, 2 * w};
            for (int t = 0; t < 6; t++) {
                int c = round[(t + 2 + w) % 6];
                Tried.due("watcher " + w + " at " + t, x.where(w, t), c % 8 * 2 + 1 - c / 8);
            }
            Tried.due("closed as before", x.closed(w), 1);
            Tried.due("the shift stays", x.shift(w, 0), 2 + w);
        }
    }

    private static void turnFourTimes() {
        Tried.by("TO TURN the HALL: W then.");
        WatchedHalls x = Tried.drawn("..#=%", ".%.#.");
        WatchedHalls same = Tried.drawn("..#=%", ".%.#.");
        for (WatchedHalls a : new WatchedHalls[] {x, same}) {
            a.picture(0, 3);
            a.picture(9, 2);
            Tried.go(a, 1, 5, 6, 7);
            a.shift(1, 5);
            a.law(1);
            a.range(2);
        }
        int[] widths = {2, 5, 2, 5};
        for (int n = 0; n < 4; n++) Tried.due("turn " + n, x.turn(), widths[n]);
        Tried.due("as it was", Tried.stateOf(x), Tried.stateOf(same));
    }

    private static void mirrorPlaces() {
        Tried.by("TO MIRROR it: x, y becomes W - 1 - x, y;");
        for (int[] size : HALLS) {
            int w = size[0], h = size[1];
            for (int y = 0; y < h; y++)
                for (int x = 0; x < w; x++) {
                    WatchedHalls a = Tried.open(w, h);
                    a.picture(y * w + x, 0);
                    a.cell(y * w + x, CURTAIN);
                    // the middle column of an odd width stays where it is
                    Tried.due("changed", a.mirror(), 2 * x == w - 1 ? 0 : 2);
                    int place = y * w + w - 1 - x;
                    for (int c = 0; c < w * h; c++) Tried.due("kind " + c, a.kind(c), c == place ? CURTAIN : FLOOR);
                    Tried.due("the picture", a.about(0, 0), place);
                    Tried.due("W", a.count(0), w);
                    Tried.due("H", a.count(1), h);
                }
        }
    }

    private static void mirrorFacings() {
        Tried.by("FACINGS 0 and 2 change.");
        WatchedHalls x = new WatchedHalls();
        for (int f = 0; f < 4; f++) x.picture(f, f);
        x.mirror();
        int[] once = {2, 1, 0, 3};
        for (int f = 0; f < 4; f++) Tried.due("facing " + f, x.about(f, 1), once[f]);
        x.mirror();
        for (int f = 0; f < 4; f++) Tried.due("facing " + f + " again", x.about(f, 1), f);
    }

    private static void mirrorRounds() {
        Tried.by("TO MIRROR it: x, y becomes W - 1 - x, y;");
        WatchedHalls x = Tried.open(4, 2);
        for (int w = 0; w < 4; w++) {
            Tried.go(x, w, w, w + 4, w + 4, w);
            x.shift(w, w);
        }
        x.mirror();
        for (int w = 0; w < 4; w++) {
            for (int t = 0; t < 4; t++)
                Tried.due("watcher " + w + " at " + t, x.where(w, t), 3 - w + ((t + w) % 4 % 3 == 0 ? 0 : 4));
            Tried.due("the shift stays", x.shift(w, 0), w);
        }
    }

    private static void mirrorCounts() {
        Tried.by("TO MIRROR it: how many CELLS have another KIND then.");
        Tried.due("none of floor", Tried.open(8, 8).mirror(), 0);
        Tried.due("none of walls", Tried.drawn("##", "##").mirror(), 0);
        Tried.due("none where sides are like", Tried.drawn("#.=.#", "%#.#%").mirror(), 0);
        Tried.due("all", Tried.drawn("#=", ".%").mirror(), 4);
        WatchedHalls half = Tried.open(8, 8);
        for (int c = 0; c < 64; c++) if (c % 8 < 4) half.cell(c, 1 + c / 8 % 3);
        Tried.due("all of the greatest", half.mirror(), 64);
        Tried.due("all back", half.mirror(), 64);
        WatchedHalls seven = Tried.open(7, 8);
        for (int c = 0; c < 56; c++) if (c % 7 < 4) seven.cell(c, WALL);
        Tried.due("all but the middle column", seven.mirror(), 48);
        // pictures and rounds are no kinds
        WatchedHalls x = Tried.go(new WatchedHalls(), 0, 0, 1);
        x.picture(0, 0);
        Tried.due("no kind changes", x.mirror(), 0);
        Tried.due("but the round does", x.where(0, 0), 4);
    }

    private static void countWhat() {
        Tried.by("W (what = 0), H (1), PICTURES (2), WATCHERS with a ROUND (3), CELLS on which one may STAND (4).");
        WatchedHalls x = Tried.drawn("..#", "=%.", "...", "...", "...", "...", "...");
        for (int n = 0; n < 8; n++) x.picture(0, n % 4);
        for (int w = 1; w < 4; w++) x.step(w, 0);
        int[] want = {OUTSIDE, OUTSIDE, 3, 7, 8, 3, 19, OUTSIDE, OUTSIDE};
        for (int what = -2; what <= 6; what++) Tried.due("count(" + what + ")", x.count(what), want[what + 2]);
    }
}
