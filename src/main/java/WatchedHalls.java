import java.util.Arrays;

/**
 * Halls that are watched: what is seen from where, the fewest posts and the shortest tours for the
 * pictures, rounds of watchers and the thefts that these leave open.
 *
 * <p>A set of cells is held as a "board": a long whose bit c stands for CELL c. All rows are made
 * in the constructors, so that no call makes an object.
 */
public final class WatchedHalls {
    public static final int UNKNOWN = -1, OUTSIDE = -2, STATE = -3, FULL = -4, NONE = -9;

    private static final int FLOOR = 0, GLASS = 2, CURTAIN = 3, LAST_KIND = 3;
    private static final int LEAST_SIDE = 2, MOST_SIDE = 8, FIRST_SIDE = 5, MOST_CELLS = 64;
    private static final int LAW_OF_LINES = 0, LAW_OF_BOXES = 1, LAW_OF_WAYS = 2;
    private static final int LEAST_RANGE = 1, MOST_RANGE = 8;
    private static final int LAST_FACING = 3, MOST_PICTURES = 8, PICTURE_SETS = 256;
    private static final int MOST_WATCHERS = 4, MOST_ROUND = 6, LAST_SHIFT = 5;
    private static final int LAST_TIME = 9999, MOST_PERIOD = 60;
    private static final int DIRECTIONS = 4, STAY = 4, MOVES = 5;
    private static final int NOWHERE = -1, MOST_MARKS = PICTURE_SETS * MOST_CELLS;

    /** What each move adds to x and to y: the four directions, and to stay. */
    private static final int[] MOVE_X = {1, 0, -1, 0, 0};
    private static final int[] MOVE_Y = {0, 1, 0, -1, 0};

    private final Grid grid;
    private final Sight sight;
    private final Pictures pictures;
    private final Rounds rounds;
    private final Posts posts;
    private final Gaps gaps;
    private final Tours tours;
    private final Thefts thefts;
    private final int[] places;

    public WatchedHalls() {
        grid = new Grid();
        sight = new Sight(grid);
        pictures = new Pictures(grid, sight);
        rounds = new Rounds();
        posts = new Posts(grid, pictures);
        gaps = new Gaps(pictures, rounds);
        // One trail serves both searches: each call makes its search anew.
        Trail trail = new Trail();
        tours = new Tours(grid, pictures, trail);
        thefts = new Thefts(grid, sight, rounds, trail);
        places = new int[MOST_CELLS];
    }

    // ---- the hall

    public int hall(int w, int h) {
        if (!isSide(w) || !isSide(h)) {
            return OUTSIDE;
        }
        grid.layOut(w, h);
        pictures.clear();
        rounds.clear();
        return grid.size();
    }

    public int cell(int cell, int kind) {
        if (!grid.isCell(cell)) {
            return UNKNOWN;
        }
        if (kind < FLOOR || kind > LAST_KIND) {
            return OUTSIDE;
        }
        int was = grid.kindOf(cell);
        grid.change(cell, kind);
        return was;
    }

    public int kind(int cell) {
        return grid.isCell(cell) ? grid.kindOf(cell) : UNKNOWN;
    }

    public int law(int v) {
        if (v < LAW_OF_LINES || v > LAW_OF_WAYS) {
            return OUTSIDE;
        }
        return sight.changeLaw(v);
    }

    public int range(int v) {
        if (v < LEAST_RANGE || v > MOST_RANGE) {
            return OUTSIDE;
        }
        return sight.changeRange(v);
    }

    public int far(int from, int to) {
        if (!grid.isCell(from) || !grid.isCell(to)) {
            return UNKNOWN;
        }
        return grid.stepsBetween(from, to);
    }

    public int sees(int from, int to) {
        if (!grid.isCell(from) || !grid.isCell(to)) {
            return UNKNOWN;
        }
        return yesOrNo(sight.reaches(from, to));
    }

    public int view(int cell) {
        return grid.isCell(cell) ? Long.bitCount(sight.boardFrom(cell)) : UNKNOWN;
    }

    public int best() {
        int bestCell = NONE;
        int most = 0;
        for (int c = 0; c < grid.size(); c++) {
            int many = Long.bitCount(sight.boardFrom(c));
            if (many > most) {
                most = many;
                bestCell = c;
            }
        }
        return bestCell;
    }

    // ---- pictures

    public int picture(int cell, int facing) {
        if (!grid.isCell(cell)) {
            return UNKNOWN;
        }
        if (facing < 0 || facing > LAST_FACING) {
            return OUTSIDE;
        }
        if (!grid.isFloor(cell)) {
            return STATE;
        }
        return pictures.hang(cell, facing);
    }

    public int about(int picture, int what) {
        if (!pictures.isPicture(picture)) {
            return UNKNOWN;
        }
        if (what == 0) {
            return pictures.cellOf(picture);
        }
        return what == 1 ? pictures.facingOf(picture) : OUTSIDE;
    }

    public int seen(int picture, int cell) {
        if (!pictures.isPicture(picture) || !grid.isCell(cell)) {
            return UNKNOWN;
        }
        return yesOrNo(pictures.isSeenFrom(picture, cell));
    }

    public int from(int cell) {
        return grid.isCell(cell) ? pictures.lookFrom(cell) : UNKNOWN;
    }

    public int fewest() {
        pictures.survey();
        posts.weigh();
        return posts.size();
    }

    public int post(int i) {
        pictures.survey();
        posts.weigh();
        return posts.cellOf(i);
    }

    public int tour(int cell) {
        if (!grid.isCell(cell)) {
            return UNKNOWN;
        }
        if (!grid.mayStand(cell)) {
            return STATE;
        }
        pictures.survey();
        return tours.lengthFrom(cell);
    }

    public int tourStep(int cell, int i) {
        if (!grid.isCell(cell)) {
            return UNKNOWN;
        }
        if (!grid.mayStand(cell)) {
            return STATE;
        }
        pictures.survey();
        return tours.moveFrom(cell, i);
    }

    // ---- watchers

    public int step(int watcher, int cell) {
        if (!isWatcher(watcher) || !grid.isCell(cell)) {
            return UNKNOWN;
        }
        if (!grid.mayStand(cell)) {
            return STATE;
        }
        int last = rounds.lastOf(watcher);
        if (last != NONE && last != cell && !grid.areNeighbours(last, cell)) {
            return STATE;
        }
        return rounds.lengthen(watcher, cell);
    }

    public int wipe(int watcher) {
        return isWatcher(watcher) ? rounds.drop(watcher) : UNKNOWN;
    }

    public int closed(int watcher) {
        if (!isWatcher(watcher)) {
            return UNKNOWN;
        }
        int first = rounds.firstOf(watcher);
        int last = rounds.lastOf(watcher);
        return yesOrNo(first == last || grid.areNeighbours(first, last));
    }

    public int shift(int watcher, int v) {
        if (!isWatcher(watcher)) {
            return UNKNOWN;
        }
        if (v < 0 || v > LAST_SHIFT) {
            return OUTSIDE;
        }
        int was = rounds.shiftOf(watcher);
        rounds.changeShift(watcher, v);
        return was;
    }

    public int where(int watcher, int time) {
        if (!isWatcher(watcher)) {
            return UNKNOWN;
        }
        return isTime(time) ? rounds.placeAt(watcher, time) : OUTSIDE;
    }

    public int watched(int cell, int time) {
        if (!grid.isCell(cell)) {
            return UNKNOWN;
        }
        if (!isTime(time)) {
            return OUTSIDE;
        }
        for (int w = 0; w < MOST_WATCHERS; w++) {
            int place = rounds.placeAt(w, time);
            if (place != NONE && sight.reaches(place, cell)) {
                return 1;
            }
        }
        return 0;
    }

    public int period() {
        return rounds.commonLength();
    }

    public int gap(int picture) {
        if (!pictures.isPicture(picture)) {
            return UNKNOWN;
        }
        gaps.survey();
        return gaps.gapOf(picture);
    }

    public int worst() {
        gaps.survey();
        return gaps.worstOfAll();
    }

    public int arrange() {
        gaps.survey();
        return gaps.setBestShifts();
    }

    // ---- thefts

    public int theft(int picture, int cell, int time) {
        if (!pictures.isPicture(picture) || !grid.isCell(cell)) {
            return UNKNOWN;
        }
        if (!isTime(time)) {
            return OUTSIDE;
        }
        thefts.survey();
        return thefts.lengthOf(pictures.cellOf(picture), cell, time);
    }

    public int theftStep(int picture, int cell, int time, int i) {
        if (!pictures.isPicture(picture) || !grid.isCell(cell)) {
            return UNKNOWN;
        }
        if (!isTime(time)) {
            return OUTSIDE;
        }
        thefts.survey();
        return thefts.moveOf(pictures.cellOf(picture), cell, time, i);
    }

    public int hours(int picture, int cell) {
        if (!pictures.isPicture(picture) || !grid.isCell(cell)) {
            return UNKNOWN;
        }
        thefts.survey();
        return thefts.goodHours(pictures.cellOf(picture), cell);
    }

    // ---- turned

    public int turn() {
        for (int c = 0; c < grid.size(); c++) {
            places[c] = grid.turnedPlace(c);
        }
        pictures.relocate(places);
        pictures.turnFacings();
        rounds.relocate(places);
        grid.relocate(places, grid.height(), grid.width());
        return grid.width();
    }

    public int mirror() {
        for (int c = 0; c < grid.size(); c++) {
            places[c] = grid.mirroredPlace(c);
        }
        pictures.relocate(places);
        pictures.mirrorFacings();
        rounds.relocate(places);
        return grid.relocate(places, grid.width(), grid.height());
    }

    public int count(int what) {
        switch (what) {
            case 0:
                return grid.width();
            case 1:
                return grid.height();
            case 2:
                return pictures.size();
            case 3:
                return rounds.howMany();
            case 4:
                return Long.bitCount(grid.standing());
            default:
                return OUTSIDE;
        }
    }

    private static boolean isSide(int v) {
        return v >= LEAST_SIDE && v <= MOST_SIDE;
    }

    private static boolean isWatcher(int watcher) {
        return watcher >= 0 && watcher < MOST_WATCHERS;
    }

    private static boolean isTime(int time) {
        return time >= 0 && time <= LAST_TIME;
    }

    private static int yesOrNo(boolean is) {
        return is ? 1 : 0;
    }

    private static boolean holds(long board, int cell) {
        return (board >>> cell & 1L) != 0L;
    }

    /** The cells, their kinds, and how one goes among them. */
    private static final class Grid {
        private int width;
        private int height;
        private int size;
        private final int[] kinds = new int[MOST_CELLS];
        private final int[] before = new int[MOST_CELLS];
        private final int[] columns = new int[MOST_CELLS];
        private final int[] rows = new int[MOST_CELLS];
        private long floorCells;
        private long clearCells;
        private long standCells;
        private long firstColumn;
        private long lastColumn;

        Grid() {
            layOut(FIRST_SIDE, FIRST_SIDE);
        }

        /** All floor; the sides are ones that have been looked at. */
        void layOut(int w, int h) {
            Arrays.fill(kinds, FLOOR);
            changeSides(w, h);
            sortKinds();
        }

        private void changeSides(int w, int h) {
            width = w;
            height = h;
            size = w * h;
            firstColumn = 0L;
            lastColumn = 0L;
            for (int y = 0; y < h; y++) {
                for (int x = 0; x < w; x++) {
                    columns[y * w + x] = x;
                    rows[y * w + x] = y;
                }
                firstColumn |= 1L << y * w;
                lastColumn |= 1L << y * w + w - 1;
            }
        }

        private void sortKinds() {
            floorCells = 0L;
            clearCells = 0L;
            standCells = 0L;
            for (int c = 0; c < size; c++) {
                long bit = 1L << c;
                int k = kinds[c];
                floorCells |= k == FLOOR ? bit : 0L;
                clearCells |= k == FLOOR || k == GLASS ? bit : 0L;
                standCells |= k == FLOOR || k == CURTAIN ? bit : 0L;
            }
        }

        int width() {
            return width;
        }

        int height() {
            return height;
        }

        int size() {
            return size;
        }

        boolean isCell(int c) {
            return c >= 0 && c < size;
        }

        int columnOf(int c) {
            return columns[c];
        }

        int rowOf(int c) {
            return rows[c];
        }

        int kindOf(int c) {
            return kinds[c];
        }

        void change(int c, int newKind) {
            kinds[c] = newKind;
            sortKinds();
        }

        boolean isFloor(int c) {
            return holds(floorCells, c);
        }

        boolean mayStand(int c) {
            return holds(standCells, c);
        }

        long standing() {
            return standCells;
        }

        /** Whether sight goes through the cell in column x and row y. */
        boolean isClear(int x, int y) {
            return (clearCells >>> y * width + x & 1L) != 0L;
        }

        /** The cell to which a move leads, if one may stand there; NOWHERE. */
        int placeAfter(int c, int move) {
            int x = columns[c] + MOVE_X[move];
            int y = rows[c] + MOVE_Y[move];
            if (x < 0 || x >= width || y < 0 || y >= height) {
                return NOWHERE;
            }
            int next = y * width + x;
            return mayStand(next) ? next : NOWHERE;
        }

        boolean areNeighbours(int a, int b) {
            int apart = Math.abs(columns[a] - columns[b]) + Math.abs(rows[a] - rows[b]);
            return apart == 1 && mayStand(a) && mayStand(b);
        }

        /** Where one may be a step later: on the same cells and on their neighbours. */
        long spread(long board) {
            long beside = (board & ~lastColumn) << 1 | (board & ~firstColumn) >>> 1;
            return (board | beside | board << width | board >>> width) & standCells;
        }

        int stepsBetween(int a, int b) {
            long board = 1L << a & standCells;
            for (int steps = 0; steps < size; steps++) {
                if (holds(board, b)) {
                    return steps;
                }
                board = spread(board);
            }
            return NONE;
        }

        int turnedPlace(int c) {
            return columns[c] * height + height - 1 - rows[c];
        }

        int mirroredPlace(int c) {
            return rows[c] * width + width - 1 - columns[c];
        }

        /** Each kind goes to its cell's new place: how many cells have another kind then. */
        int relocate(int[] newPlaces, int w, int h) {
            System.arraycopy(kinds, 0, before, 0, size);
            for (int c = 0; c < size; c++) {
                kinds[newPlaces[c]] = before[c];
            }
            changeSides(w, h);
            sortKinds();
            int others = 0;
            for (int c = 0; c < size; c++) {
                others += kinds[c] != before[c] ? 1 : 0;
            }
            return others;
        }
    }

    /** Which cells see one another, by the law and the range. */
    private static final class Sight {
        private final Grid grid;
        private int sightLaw = LAW_OF_WAYS;
        private int sightRange = MOST_RANGE;

        Sight(Grid grid) {
            this.grid = grid;
        }

        int changeLaw(int v) {
            int was = sightLaw;
            sightLaw = v;
            return was;
        }

        int changeRange(int v) {
            int was = sightRange;
            sightRange = v;
            return was;
        }

        boolean reaches(int a, int b) {
            if (a == b) {
                return grid.mayStand(a);
            }
            if (!grid.isFloor(a) || !grid.isFloor(b)) {
                return false;
            }
            int sizeX = Math.abs(grid.columnOf(a) - grid.columnOf(b));
            int sizeY = Math.abs(grid.rowOf(a) - grid.rowOf(b));
            if (sizeX > sightRange || sizeY > sightRange) {
                return false;
            }
            if (sightLaw == LAW_OF_WAYS) {
                return isWayClear(a, b);
            }
            // Two cells in one line have that line as their least box, so one look serves both laws.
            return (sightLaw == LAW_OF_BOXES || sizeX == 0 || sizeY == 0) && isBoxClear(a, b);
        }

        /** The cells that a cell sees. */
        long boardFrom(int c) {
            long board = 0L;
            for (int other = 0; other < grid.size(); other++) {
                board |= reaches(c, other) ? 1L << other : 0L;
            }
            return board;
        }

        private boolean isBoxClear(int a, int b) {
            int lastX = Math.max(grid.columnOf(a), grid.columnOf(b));
            int lastY = Math.max(grid.rowOf(a), grid.rowOf(b));
            for (int y = Math.min(grid.rowOf(a), grid.rowOf(b)); y <= lastY; y++) {
                for (int x = Math.min(grid.columnOf(a), grid.columnOf(b)); x <= lastX; x++) {
                    if (!grid.isClear(x, y)) {
                        return false;
                    }
                }
            }
            return true;
        }

        /**
         * Follows the straight way from cell to cell. It leaves its cell by the side in x after
         * (1 + 2 goneX) / (2 sizeX) of the way, by the side in y after (1 + 2 goneY) / (2 sizeY):
         * the lead compares the two without a division, and is 0 at a corner.
         */
        private boolean isWayClear(int a, int b) {
            int x = grid.columnOf(a);
            int y = grid.rowOf(a);
            int sizeX = Math.abs(grid.columnOf(b) - x);
            int sizeY = Math.abs(grid.rowOf(b) - y);
            int stepX = grid.columnOf(b) < x ? -1 : 1;
            int stepY = grid.rowOf(b) < y ? -1 : 1;
            int goneX = 0;
            int goneY = 0;
            while (goneX + goneY < sizeX + sizeY) {
                int lead = (1 + 2 * goneX) * sizeY - (1 + 2 * goneY) * sizeX;
                if (lead == 0 && !grid.isClear(x + stepX, y) && !grid.isClear(x, y + stepY)) {
                    return false;
                }
                if (lead <= 0) {
                    x += stepX;
                    goneX++;
                }
                if (lead >= 0) {
                    y += stepY;
                    goneY++;
                }
                if (!grid.isClear(x, y)) {
                    return false;
                }
            }
            return true;
        }
    }

    /** The pictures, and from where they are seen. */
    private static final class Pictures {
        private final Grid grid;
        private final Sight sight;
        private final int[] cells = new int[MOST_PICTURES];
        private final int[] facings = new int[MOST_PICTURES];
        private final int[] sets = new int[MOST_CELLS];
        private int size;

        Pictures(Grid grid, Sight sight) {
            this.grid = grid;
            this.sight = sight;
        }

        void clear() {
            size = 0;
        }

        int size() {
            return size;
        }

        boolean isPicture(int p) {
            return p >= 0 && p < size;
        }

        int cellOf(int p) {
            return cells[p];
        }

        int facingOf(int p) {
            return facings[p];
        }

        int hang(int c, int facing) {
            if (size >= MOST_PICTURES) {
                return FULL;
            }
            cells[size] = c;
            facings[size] = facing;
            size++;
            return size - 1;
        }

        boolean isSeenFrom(int p, int c) {
            return !isBehind(p, c) && sight.reaches(c, cells[p]);
        }

        private boolean isBehind(int p, int c) {
            int moreX = grid.columnOf(c) - grid.columnOf(cells[p]);
            int moreY = grid.rowOf(c) - grid.rowOf(cells[p]);
            int facing = facings[p];
            return MOVE_X[facing] * moreX + MOVE_Y[facing] * moreY < 0;
        }

        /** The set of the pictures that are seen from a cell. */
        int lookFrom(int c) {
            int set = 0;
            for (int p = 0; p < size; p++) {
                set |= isSeenFrom(p, c) ? 1 << p : 0;
            }
            return set;
        }

        /** Ahead of setAt: a search asks for the same sets again and again. */
        void survey() {
            for (int c = 0; c < grid.size(); c++) {
                sets[c] = lookFrom(c);
            }
        }

        int setAt(int c) {
            return sets[c];
        }

        int all() {
            return (1 << size) - 1;
        }

        void relocate(int[] newPlaces) {
            for (int p = 0; p < size; p++) {
                cells[p] = newPlaces[cells[p]];
            }
        }

        void turnFacings() {
            for (int p = 0; p < size; p++) {
                facings[p] = facings[p] == LAST_FACING ? 0 : facings[p] + 1;
            }
        }

        void mirrorFacings() {
            for (int p = 0; p < size; p++) {
                // Facings 0 and 2 go along x; 1 and 3 stay.
                if (MOVE_X[facings[p]] != 0) {
                    facings[p] = 2 - facings[p];
                }
            }
        }
    }

    /** The rounds of the watchers and their shifts. */
    private static final class Rounds {
        private final int[] cells = new int[MOST_WATCHERS * MOST_ROUND];
        private final int[] lengths = new int[MOST_WATCHERS];
        private final int[] shifts = new int[MOST_WATCHERS];

        void clear() {
            Arrays.fill(lengths, 0);
            Arrays.fill(shifts, 0);
        }

        int lengthOf(int w) {
            return lengths[w];
        }

        int shiftOf(int w) {
            return shifts[w];
        }

        void changeShift(int w, int v) {
            shifts[w] = v;
        }

        int cellOf(int w, int i) {
            return cells[w * MOST_ROUND + i];
        }

        int firstOf(int w) {
            return lengths[w] == 0 ? NONE : cellOf(w, 0);
        }

        int lastOf(int w) {
            return lengths[w] == 0 ? NONE : cellOf(w, lengths[w] - 1);
        }

        int lengthen(int w, int c) {
            if (lengths[w] >= MOST_ROUND) {
                return FULL;
            }
            cells[w * MOST_ROUND + lengths[w]] = c;
            lengths[w]++;
            return lengths[w];
        }

        int drop(int w) {
            int was = lengths[w];
            lengths[w] = 0;
            return was;
        }

        int placeAt(int w, int time) {
            int length = lengths[w];
            return length == 0 ? NONE : cellOf(w, (time + shifts[w]) % length);
        }

        int howMany() {
            int many = 0;
            for (int w = 0; w < MOST_WATCHERS; w++) {
                many += lengths[w] > 0 ? 1 : 0;
            }
            return many;
        }

        /** The least number that all lengths divide: 60 at most, as lengths are 1 to 6. */
        int commonLength() {
            for (int n = 1; n < MOST_PERIOD; n++) {
                if (allDivide(n)) {
                    return n;
                }
            }
            return MOST_PERIOD;
        }

        private boolean allDivide(int n) {
            for (int w = 0; w < MOST_WATCHERS; w++) {
                if (lengths[w] > 0 && n % lengths[w] != 0) {
                    return false;
                }
            }
            return true;
        }

        void relocate(int[] newPlaces) {
            for (int w = 0; w < MOST_WATCHERS; w++) {
                for (int i = 0; i < lengths[w]; i++) {
                    cells[w * MOST_ROUND + i] = newPlaces[cells[w * MOST_ROUND + i]];
                }
            }
        }
    }

    /** The fewest cells from which all pictures are seen. */
    private static final class Posts {
        private static final int NEVER = 99;

        private final Grid grid;
        private final Pictures pictures;
        private final int[] needs = new int[PICTURE_SETS];

        Posts(Grid grid, Pictures pictures) {
            this.grid = grid;
            this.pictures = pictures;
        }

        /** For each set of pictures, how many cells it needs; behind a survey of the pictures. */
        void weigh() {
            needs[0] = 0;
            for (int set = 1; set <= pictures.all(); set++) {
                needs[set] = needOf(set);
            }
        }

        private int needOf(int set) {
            // One of the cells must see the first picture of the set: others need no look.
            int first = set & -set;
            int least = NEVER;
            for (int c = 0; c < grid.size(); c++) {
                int found = pictures.setAt(c);
                if ((found & first) != 0) {
                    least = Math.min(least, needs[set & ~found] + 1);
                }
            }
            return least;
        }

        int size() {
            int need = needs[pictures.all()];
            return need > MOST_PICTURES ? NONE : need;
        }

        /**
         * The least cell that is in some answer of fewest cells comes first; whatever goes with it
         * is then greater, so each next one is again the least that leaves one cell fewer to find.
         */
        int cellOf(int i) {
            if (i < 0 || i >= size()) {
                return NONE;
            }
            int rest = pictures.all();
            int found = NONE;
            for (int n = 0; n <= i; n++) {
                found = leastHelper(rest);
                if (found == NONE) {
                    return NONE;
                }
                rest &= ~pictures.setAt(found);
            }
            return found;
        }

        private int leastHelper(int rest) {
            for (int c = 0; c < grid.size(); c++) {
                if (needs[rest & ~pictures.setAt(c)] == needs[rest] - 1) {
                    return c;
                }
            }
            return NONE;
        }
    }

    /** How long pictures are out of sight. */
    private static final class Gaps {
        private final Pictures pictures;
        private final Rounds rounds;
        /** For each picture and watcher: bit t tells that it sees the picture at time t, unshifted. */
        private final long[] sightings = new long[MOST_PICTURES * MOST_WATCHERS];
        private final int[] bestShifts = new int[MOST_WATCHERS];
        private int commonLength;
        private long allTimes;

        Gaps(Pictures pictures, Rounds rounds) {
            this.pictures = pictures;
            this.rounds = rounds;
        }

        /** Ahead of all other calls: shifts alone may change behind it. */
        void survey() {
            commonLength = rounds.commonLength();
            allTimes = (1L << commonLength) - 1L;
            for (int p = 0; p < pictures.size(); p++) {
                for (int w = 0; w < MOST_WATCHERS; w++) {
                    sightings[p * MOST_WATCHERS + w] = sightingsOf(p, w);
                }
            }
        }

        private long sightingsOf(int p, int w) {
            long times = 0L;
            int length = rounds.lengthOf(w);
            for (int i = 0; i < length; i++) {
                if (pictures.isSeenFrom(p, rounds.cellOf(w, i))) {
                    for (int t = i; t < commonLength; t += length) {
                        times |= 1L << t;
                    }
                }
            }
            return times;
        }

        /** The times go on for ever, so what is sooner by n comes in again at the end. */
        private long sooner(long times, int n) {
            return (times >>> n | times << commonLength - n) & allTimes;
        }

        int gapOf(int p) {
            long dark = allTimes;
            for (int w = 0; w < MOST_WATCHERS; w++) {
                int length = rounds.lengthOf(w);
                if (length > 0) {
                    int by = rounds.shiftOf(w) % length;
                    dark &= ~sooner(sightings[p * MOST_WATCHERS + w], by);
                }
            }
            return dark == allTimes ? NONE : longestRun(dark);
        }

        private int longestRun(long times) {
            long left = times;
            int longest = 0;
            // Each round leaves the times that begin a run of one more.
            while (left != 0L && longest < commonLength) {
                left &= sooner(left, 1);
                longest++;
            }
            return longest;
        }

        int worstOfAll() {
            int worstGap = 0;
            for (int p = 0; p < pictures.size(); p++) {
                int one = gapOf(p);
                if (one == NONE) {
                    return NONE;
                }
                worstGap = Math.max(worstGap, one);
            }
            return worstGap;
        }

        /**
         * Goes through the shifts in order, from all 0. To shift all watchers alike changes no gap,
         * so the first one with a round stays at 0 in the best shifts.
         */
        int setBestShifts() {
            for (int w = 0; w < MOST_WATCHERS; w++) {
                rounds.changeShift(w, 0);
                bestShifts[w] = 0;
            }
            int least = worstOfAll();
            // Whether a picture is ever in sight hangs on no shift: NONE stays NONE.
            if (least == NONE) {
                return NONE;
            }
            int leader = firstWithRound();
            int many = 1;
            for (int w = leader + 1; w < MOST_WATCHERS; w++) {
                many *= Math.max(1, rounds.lengthOf(w));
            }
            for (int n = 1; n < many && least > 0; n++) {
                shiftOn(leader);
                int now = worstOfAll();
                if (now < least) {
                    least = now;
                    keepShifts();
                }
            }
            for (int w = 0; w < MOST_WATCHERS; w++) {
                rounds.changeShift(w, bestShifts[w]);
            }
            return least;
        }

        private int firstWithRound() {
            for (int w = 0; w < MOST_WATCHERS; w++) {
                if (rounds.lengthOf(w) > 0) {
                    return w;
                }
            }
            return MOST_WATCHERS;
        }

        /** The next shifts in order: the last watcher's goes on, and carries to the one ahead. */
        private void shiftOn(int leader) {
            for (int w = MOST_WATCHERS - 1; w > leader; w--) {
                if (rounds.shiftOf(w) + 1 < rounds.lengthOf(w)) {
                    rounds.changeShift(w, rounds.shiftOf(w) + 1);
                    return;
                }
                rounds.changeShift(w, 0);
            }
        }

        private void keepShifts() {
            for (int w = 0; w < MOST_WATCHERS; w++) {
                bestShifts[w] = rounds.shiftOf(w);
            }
        }
    }

    /**
     * The states that a search has come to, in the order in which it came. A state is a cell in a
     * layer. As moves are tried in order and states are left in the order in which they came, the
     * way by which a state is first come to is the first in order of its shortest ways.
     */
    private static final class Trail {
        private static final int CELL_MASK = 63, LAYER_AT = 6, LAYER_MASK = 255;
        private static final int MOVE_AT = 14, MOVE_MASK = 7, PARENT_AT = 17;

        /** Cell, layer, the move to it and the mark that it came from, in one number each. */
        private final int[] marks = new int[MOST_MARKS];
        private final long[] visited = new long[PICTURE_SETS];
        private int size;

        void clear() {
            Arrays.fill(visited, 0L);
            size = 0;
        }

        int size() {
            return size;
        }

        void visit(int layer, int c, int move, int parent) {
            if (holds(visited[layer], c) || size >= MOST_MARKS) {
                return;
            }
            visited[layer] |= 1L << c;
            marks[size] = parent << PARENT_AT | move << MOVE_AT | layer << LAYER_AT | c;
            size++;
        }

        int cellAt(int mark) {
            return marks[mark] & CELL_MASK;
        }

        int layerAt(int mark) {
            return marks[mark] >> LAYER_AT & LAYER_MASK;
        }

        private int moveAt(int mark) {
            return marks[mark] >> MOVE_AT & MOVE_MASK;
        }

        private int parentOf(int mark) {
            return marks[mark] >> PARENT_AT;
        }

        /** How many moves lead to a mark; NONE of NOWHERE. */
        int movesTo(int mark) {
            if (mark == NOWHERE) {
                return NONE;
            }
            int many = 0;
            // A mark comes behind its parent, so the chain ends at mark 0.
            for (int at = mark; at > 0 && many < MOST_MARKS; at = parentOf(at)) {
                many++;
            }
            return many;
        }

        /** Move i of those that lead to a mark; NONE. */
        int moveTo(int mark, int i) {
            int many = movesTo(mark);
            if (i < 0 || i >= many) {
                return NONE;
            }
            int at = mark;
            for (int n = many - 1; n > i; n--) {
                at = parentOf(at);
            }
            return moveAt(at);
        }
    }

    /**
     * The shortest tours, behind a survey of the pictures: a layer of the search is the set of
     * pictures seen so far.
     */
    private static final class Tours {
        private final Grid grid;
        private final Pictures pictures;
        private final Trail trail;

        Tours(Grid grid, Pictures pictures, Trail trail) {
            this.grid = grid;
            this.pictures = pictures;
            this.trail = trail;
        }

        int lengthFrom(int start) {
            return trail.movesTo(search(start));
        }

        int moveFrom(int start, int i) {
            return trail.moveTo(search(start), i);
        }

        private int search(int start) {
            trail.clear();
            trail.visit(pictures.setAt(start), start, STAY, 0);
            for (int mark = 0; mark < MOST_MARKS && mark < trail.size(); mark++) {
                int c = trail.cellAt(mark);
                int found = trail.layerAt(mark);
                if (c == start && found == pictures.all()) {
                    return mark;
                }
                for (int move = 0; move < DIRECTIONS; move++) {
                    int next = grid.placeAfter(c, move);
                    if (next != NOWHERE) {
                        trail.visit(found | pictures.setAt(next), next, move, mark);
                    }
                }
            }
            return NOWHERE;
        }
    }

    /**
     * The soonest thefts: a layer of the search is the time within the period, and behind all of
     * these the same once more for a thief who has been at the picture.
     */
    private static final class Thefts {
        private final Grid grid;
        private final Sight sight;
        private final Rounds rounds;
        private final Trail trail;
        private final long[] unseen = new long[MOST_PERIOD];
        private final long[] goals = new long[MOST_PERIOD];
        private int commonLength;

        Thefts(Grid grid, Sight sight, Rounds rounds, Trail trail) {
            this.grid = grid;
            this.sight = sight;
            this.rounds = rounds;
            this.trail = trail;
        }

        /** Ahead of all other calls: for each time of the period the cells on which a thief may be. */
        void survey() {
            commonLength = rounds.commonLength();
            Arrays.fill(unseen, grid.standing());
            for (int w = 0; w < MOST_WATCHERS; w++) {
                int length = rounds.lengthOf(w);
                for (int i = 0; i < length; i++) {
                    long board = sight.boardFrom(rounds.cellOf(w, i));
                    int first = Math.floorMod(i - rounds.shiftOf(w), length);
                    for (int t = first; t < commonLength; t += length) {
                        unseen[t] &= ~board;
                    }
                }
            }
        }

        int lengthOf(int target, int start, int time) {
            return trail.movesTo(search(target, start, time));
        }

        int moveOf(int target, int start, int time, int i) {
            return trail.moveTo(search(target, start, time), i);
        }

        private int after(int time) {
            return time + 1 < commonLength ? time + 1 : 0;
        }

        private int search(int target, int start, int time) {
            trail.clear();
            int begin = time % Math.max(1, commonLength);
            if (holds(unseen[begin], start)) {
                trail.visit(layerFor(start == target, begin), start, STAY, 0);
            }
            for (int mark = 0; mark < MOST_MARKS && mark < trail.size(); mark++) {
                boolean been = trail.layerAt(mark) >= commonLength;
                if (been && trail.cellAt(mark) == start) {
                    return mark;
                }
                int now = trail.layerAt(mark) - (been ? commonLength : 0);
                goOn(mark, been, after(now), target);
            }
            return NOWHERE;
        }

        private int layerFor(boolean been, int time) {
            return been ? commonLength + time : time;
        }

        private void goOn(int mark, boolean been, int time, int target) {
            for (int move = 0; move < MOVES; move++) {
                int next = grid.placeAfter(trail.cellAt(mark), move);
                if (next != NOWHERE && holds(unseen[time], next)) {
                    trail.visit(layerFor(been || next == target, time), next, move, mark);
                }
            }
        }

        /**
         * From behind, for all times at once: from where and when does one come back to the start,
         * and then from where and when to the picture at such a time.
         */
        int goodHours(int target, int start) {
            narrowTo(start, true);
            leadBack();
            narrowTo(target, false);
            leadBack();
            int many = 0;
            for (int t = 0; t < commonLength; t++) {
                many += holds(goals[t], start) ? 1 : 0;
            }
            return many;
        }

        private void narrowTo(int c, boolean anew) {
            for (int t = 0; t < commonLength; t++) {
                goals[t] = (anew ? unseen[t] : goals[t]) & 1L << c;
            }
        }

        /** Widens the goals by all from which they can be come to, until nothing more comes in. */
        private void leadBack() {
            boolean grown = true;
            for (int n = 0; grown && n <= MOST_PERIOD * MOST_CELLS; n++) {
                grown = false;
                for (int t = commonLength - 1; t >= 0; t--) {
                    long wider = goals[t] | unseen[t] & grid.spread(goals[after(t)]);
                    grown = grown || wider != goals[t];
                    goals[t] = wider;
                }
            }
        }
    }
}
