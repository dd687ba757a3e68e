/**
 * Each refused call: which refusal it answers where several apply, just beside the numbers that are
 * allowed and far from them, and that it changes nothing.
 */
public final class RefusalTests {
    private static final int UNKNOWN = Tried.UNKNOWN, OUTSIDE = Tried.OUTSIDE, STATE = Tried.STATE;
    private static final int FULL = Tried.FULL, NONE = Tried.NONE, MIN = Tried.MIN, MAX = Tried.MAX;
    private static final int[] NO_WATCHERS = {-1, 4, 5, 32, 64, MIN, MAX};
    private static final int[] NO_TIMES = {-1, 10000, 10001, 65536, MIN, MAX};
    private static final int[] NO_FACINGS = {-1, 4, 32, MIN, MAX};
    private static final int[] NO_STEPS = {-1, MIN, 512, MAX};

    public static void main(String[] args) throws Exception {
        names();
        hall();
        cell();
        kind();
        law();
        range();
        far();
        sees();
        view();
        picture();
        about();
        seen();
        from();
        post();
        tour();
        tourStep();
        stepUnknown();
        stepState();
        stepFull();
        wipe();
        closed();
        shift();
        where();
        watched();
        gap();
        theft();
        theftStep();
        hours();
        count();
        severalAtOnce();
        readingChangesNothing();
        Tried.end("RefusalTests");
    }

    // ---- halls in which calls are refused

    /** As it is made: no pictures, no rounds. */
    private static WatchedHalls fresh() {
        return new WatchedHalls();
    }

    /**
     * 4 by 3, with all kinds, two pictures, a round of three, and one of which the last cell has become
     * a wall.
     */
    private static WatchedHalls furnished() {
        WatchedHalls x = Tried.drawn(
            "..=.",
            ".#%.",
            "....");
        x.law(1);
        x.range(3);
        x.picture(0, 3);
        x.picture(11, 1);
        Tried.go(x, 0, 4, 8, 9);
        Tried.go(x, 2, 7, 3);
        x.cell(3, Tried.WALL);
        x.shift(0, 2);
        x.shift(1, 4);
        return x;
    }

    /** 8 by 8, 8 pictures, 4 rounds of 6 cells, the greatest shifts; cells 60 to 62 are no floor. */
    private static WatchedHalls full() {
        WatchedHalls x = Tried.open(8, 8);
        for (int p = 0; p < 8; p++) x.picture(8 * p, p % 4);
        for (int w = 0; w < 4; w++) {
            Tried.go(x, w, w, w + 1, w + 2, w + 2, w + 2, w + 10);
            x.shift(w, 5);
        }
        for (int kind = Tried.WALL; kind <= Tried.CURTAIN; kind++) x.cell(59 + kind, kind);
        return x;
    }

    /** 2 by 2, all walls. */
    private static WatchedHalls least() {
        return Tried.drawn("##", "##");
    }

    private static Tried.Maker[] all() {
        return new Tried.Maker[] {RefusalTests::fresh, RefusalTests::furnished, RefusalTests::full, RefusalTests::least};
    }

    private static int cells(Tried.Maker maker) {
        WatchedHalls x = maker.make();
        return x.count(0) * x.count(1);
    }

    private static int[] noCells(Tried.Maker maker) {
        int n = cells(maker);
        return new int[] {-1, n, n + 1, 64, 65, 127, 256, -64, MIN, MAX};
    }

    private static int[] noPictures(Tried.Maker maker) {
        int n = maker.make().count(2);
        return new int[] {-1, n, n + 1, 8, 32, 33, MIN, MAX};
    }

    private static int[] with(int[] some, int... more) {
        int[] d = java.util.Arrays.copyOf(some, some.length + more.length);
        System.arraycopy(more, 0, d, some.length, more.length);
        return d;
    }

    private static void refused(String what, Tried.Maker maker, Tried.Call call, int due) {
        WatchedHalls x = maker.make();
        Tried.due(what, call.ask(x), due);
        Tried.due(what + ": what is refused changes nothing", Tried.stateOf(x), Tried.stateOf(maker.make()));
    }

    // ---- call by call

    private static void names() {
        Tried.by("public static final int UNKNOWN = -1, OUTSIDE = -2, STATE = -3, FULL = -4, NONE = -9;");
        Tried.due("UNKNOWN", WatchedHalls.UNKNOWN, -1);
        Tried.due("OUTSIDE", WatchedHalls.OUTSIDE, -2);
        Tried.due("STATE", WatchedHalls.STATE, -3);
        Tried.due("FULL", WatchedHalls.FULL, -4);
        Tried.due("NONE", WatchedHalls.NONE, -9);
    }

    private static void hall() {
        Tried.by("no PICTURES, no ROUNDS, SHIFTS 0 (LAW, RANGE stay): how many CELLS. OUTSIDE.");
        int[] wrong = {1, 9, 0, -1, -2, 16, 64, MIN, MAX, 1 << 16};
        for (Tried.Maker m : all())
            for (int a : wrong) {
                for (int b = 2; b <= 8; b++) {
                    int side = b;
                    refused("hall(" + a + ", " + side + ")", m, x -> x.hall(a, side), OUTSIDE);
                    refused("hall(" + side + ", " + a + ")", m, x -> x.hall(side, a), OUTSIDE);
                }
                for (int b : wrong) refused("hall(" + a + ", " + b + ")", m, x -> x.hall(a, b), OUTSIDE);
            }
    }

    private static void cell() {
        Tried.by("KIND of a CELL: what it was. UNKNOWN; OUTSIDE.");
        int[] noKinds = {-1, 4, 5, 32, MIN, MAX};
        for (Tried.Maker m : all()) {
            for (int c : noCells(m))
                for (int k : with(noKinds, 0, 1, 2, 3))
                    refused("cell(" + c + ", " + k + ")", m, x -> x.cell(c, k), UNKNOWN);
            for (int c = 0; c < cells(m); c++)
                for (int k : noKinds) {
                    int known = c;
                    refused("cell(" + known + ", " + k + ")", m, x -> x.cell(known, k), OUTSIDE);
                }
        }
    }

    private static void kind() {
        Tried.by("KIND of a CELL as it is. UNKNOWN.");
        for (Tried.Maker m : all())
            for (int c : noCells(m)) refused("kind(" + c + ")", m, x -> x.kind(c), UNKNOWN);
    }

    private static void law() {
        Tried.by("`int law(int v)`: LAW: what it was. OUTSIDE.");
        for (Tried.Maker m : all())
            for (int v : new int[] {-1, 3, 4, 8, MIN, MAX}) refused("law(" + v + ")", m, x -> x.law(v), OUTSIDE);
    }

    private static void range() {
        Tried.by("`int range(int v)`: RANGE: what it was. OUTSIDE.");
        for (Tried.Maker m : all())
            for (int v : new int[] {0, 9, -1, 10, MIN, MAX}) refused("range(" + v + ")", m, x -> x.range(v), OUTSIDE);
    }

    private static void far() {
        Tried.by("FAR; NONE (also if one may not STAND on one of them). UNKNOWN.");
        for (Tried.Maker m : all())
            for (int a : noCells(m)) {
                for (int b : noCells(m)) refused("far(" + a + ", " + b + ")", m, x -> x.far(a, b), UNKNOWN);
                for (int b = 0; b < cells(m); b++) {
                    int known = b;
                    refused("far(" + a + ", " + known + ")", m, x -> x.far(a, known), UNKNOWN);
                    refused("far(" + known + ", " + a + ")", m, x -> x.far(known, a), UNKNOWN);
                }
            }
    }

    private static void sees() {
        Tried.by("Whether a CELL SEES another one: 1, 0. UNKNOWN.");
        for (Tried.Maker m : all())
            for (int a : noCells(m)) {
                for (int b : noCells(m)) refused("sees(" + a + ", " + b + ")", m, x -> x.sees(a, b), UNKNOWN);
                for (int b = 0; b < cells(m); b++) {
                    int known = b;
                    refused("sees(" + a + ", " + known + ")", m, x -> x.sees(a, known), UNKNOWN);
                    refused("sees(" + known + ", " + a + ")", m, x -> x.sees(known, a), UNKNOWN);
                }
            }
    }

    private static void view() {
        Tried.by("How many CELLS a CELL SEES (itself too, if one may STAND on it). UNKNOWN.");
        for (Tried.Maker m : all())
            for (int c : noCells(m)) refused("view(" + c + ")", m, x -> x.view(c), UNKNOWN);
    }

    private static void picture() {
        Tried.by("A PICTURE: its number. UNKNOWN: cell; OUTSIDE: facing; STATE: it is no FLOOR; FULL: 8.");
        for (Tried.Maker m : all())
            for (int c : noCells(m))
                for (int f : with(NO_FACINGS, 0, 3))
                    refused("picture(" + c + ", " + f + ")", m, x -> x.picture(c, f), UNKNOWN);
        Tried.Maker some = RefusalTests::furnished;
        Tried.Maker full = RefusalTests::full;
        for (int f : NO_FACINGS) {
            for (int c : new int[] {0, 1, 2, 5, 6, 11}) // of all kinds
                refused("picture(" + c + ", " + f + ")", some, x -> x.picture(c, f), OUTSIDE);
            for (int c : new int[] {0, 60, 61, 62, 63}) // and with 8 pictures
                refused("picture(" + c + ", " + f + ")", full, x -> x.picture(c, f), OUTSIDE);
        }
        for (int f = 0; f < 4; f++) {
            int facing = f;
            for (int c : new int[] {2, 3, 5, 6})
                refused("picture(" + c + ", " + f + ")", some, x -> x.picture(c, facing), STATE);
            for (int c : new int[] {60, 61, 62})
                refused("picture(" + c + ", " + f + ")", full, x -> x.picture(c, facing), STATE);
            for (int c : new int[] {0, 1, 59, 63})
                refused("picture(" + c + ", " + f + ")", full, x -> x.picture(c, facing), FULL);
        }
    }

    private static void about() {
        Tried.by("CELL of a PICTURE (what = 0), FACING (1). UNKNOWN; OUTSIDE.");
        int[] noWhats = {-1, 2, 3, MIN, MAX};
        for (Tried.Maker m : all()) {
            for (int p : noPictures(m))
                for (int what : with(noWhats, 0, 1))
                    refused("about(" + p + ", " + what + ")", m, x -> x.about(p, what), UNKNOWN);
            for (int p = 0; p < m.make().count(2); p++)
                for (int what : noWhats) {
                    int known = p;
                    refused("about(" + known + ", " + what + ")", m, x -> x.about(known, what), OUTSIDE);
                }
        }
    }

    private static void seen() {
        Tried.by("Whether a PICTURE is SEEN from a CELL: 1, 0. UNKNOWN.");
        for (Tried.Maker m : all()) {
            for (int p : noPictures(m))
                for (int c : with(noCells(m), 0, cells(m) - 1))
                    refused("seen(" + p + ", " + c + ")", m, x -> x.seen(p, c), UNKNOWN);
            for (int p = 0; p < m.make().count(2); p++)
                for (int c : noCells(m)) {
                    int known = p;
                    refused("seen(" + known + ", " + c + ")", m, x -> x.seen(known, c), UNKNOWN);
                }
        }
    }

    private static void from() {
        Tried.by("The set of PICTURES that are SEEN from a CELL. UNKNOWN.");
        for (Tried.Maker m : all())
            for (int c : noCells(m)) refused("from(" + c + ")", m, x -> x.from(c), UNKNOWN);
    }

    private static void post() {
        Tried.by("The i-th of THE FEWEST; NONE.");
        for (Tried.Maker m : all())
            for (int i : with(NO_STEPS, m.make().fewest() < 0 ? 0 : m.make().fewest()))
                refused("post(" + i + ")", m, x -> x.post(i), NONE);
    }

    private static void tour() {
        Tried.by("How many steps THE SHORTEST TOUR from a CELL has; NONE. UNKNOWN; STATE: one may not STAND there.");
        for (Tried.Maker m : all())
            for (int c : noCells(m)) refused("tour(" + c + ")", m, x -> x.tour(c), UNKNOWN);
        for (int c : new int[] {2, 3, 5}) refused("tour(" + c + ")", RefusalTests::furnished, x -> x.tour(c), STATE);
        for (int c : new int[] {60, 61}) refused("tour(" + c + ")", RefusalTests::full, x -> x.tour(c), STATE);
        for (int c = 0; c < 4; c++) {
            int known = c;
            refused("tour(" + known + ")", RefusalTests::least, x -> x.tour(known), STATE);
        }
    }

    private static void tourStep() {
        Tried.by("DIRECTION of step i of it; NONE: there is no such step, or TOUR. UNKNOWN; STATE.");
        for (Tried.Maker m : all())
            for (int c : noCells(m))
                for (int i : with(NO_STEPS, 0))
                    refused("tourStep(" + c + ", " + i + ")", m, x -> x.tourStep(c, i), UNKNOWN);
        for (int i : with(NO_STEPS, 0)) {
            for (int c : new int[] {2, 3, 5})
                refused("tourStep(" + c + ", " + i + ")", RefusalTests::furnished, x -> x.tourStep(c, i), STATE);
            for (int c : new int[] {60, 61})
                refused("tourStep(" + c + ", " + i + ")", RefusalTests::full, x -> x.tourStep(c, i), STATE);
            refused("tourStep(3, " + i + ")", RefusalTests::least, x -> x.tourStep(3, i), STATE);
        }
        for (int i : NO_STEPS)
            for (int c : new int[] {0, 62, 63})
                refused("tourStep(" + c + ", " + i + ")", RefusalTests::full, x -> x.tourStep(c, i), NONE);
    }

    private static void stepUnknown() {
        Tried.by("UNKNOWN: watcher, cell;");
        for (Tried.Maker m : all()) {
            for (int w : NO_WATCHERS)
                for (int c : with(noCells(m), 0, cells(m) - 1))
                    refused("step(" + w + ", " + c + ")", m, x -> x.step(w, c), UNKNOWN);
            for (int w = 0; w < 4; w++)
                for (int c : noCells(m)) {
                    int known = w;
                    refused("step(" + known + ", " + c + ")", m, x -> x.step(known, c), UNKNOWN);
                }
        }
    }

    private static void stepState() {
        Tried.by("STATE: one may not STAND there, or it is neither the same as nor a NEIGHBOUR of the last one;");
        Tried.Maker some = RefusalTests::furnished;
        for (int w = 0; w < 4; w++)
            for (int c : new int[] {2, 3, 5}) { // glass, a wall that was floor, a wall; with a round and without
                int known = w;
                refused("step(" + known + ", " + c + ")", some, x -> x.step(known, c), STATE);
            }
        // the last one is 9: 5 beside it is a wall, 4 and 6 are aslant, 11 is two away
        for (int c : new int[] {0, 1, 4, 5, 6, 7, 11}) refused("step(0, " + c + ")", some, x -> x.step(0, c), STATE);
        // the last one is 3, now a wall, so that it has no neighbours
        for (int c : new int[] {3, 7, 2, 4, 0}) refused("step(2, " + c + ")", some, x -> x.step(2, c), STATE);
        // ahead of FULL: the last ones are 10 to 13
        Tried.Maker full = RefusalTests::full;
        for (int w = 0; w < 4; w++)
            for (int c : new int[] {60, 61, 62, 63, w, w + 1, w + 19, w + 12, w + 26}) {
                int known = w;
                refused("step(" + known + ", " + c + ")", full, x -> x.step(known, c), STATE);
            }
        Tried.Maker shut = () -> {
            WatchedHalls x = full();
            x.cell(10, Tried.GLASS);
            return x;
        };
        for (int c : new int[] {10, 9, 11, 2, 18}) refused("step(0, " + c + ")", shut, x -> x.step(0, c), STATE);
    }

    private static void stepFull() {
        Tried.by("FULL: 6.");
        for (int w = 0; w < 4; w++)
            for (int c : new int[] {w + 10, w + 9, w + 11, w + 2, w + 18}) {
                int known = w;
                refused("step(" + known + ", " + c + ")", RefusalTests::full, x -> x.step(known, c), FULL);
            }
    }

    private static void wipe() {
        Tried.by("The ROUND of a WATCHER is none: how many CELLS it had. UNKNOWN.");
        for (Tried.Maker m : all())
            for (int w : NO_WATCHERS) refused("wipe(" + w + ")", m, x -> x.wipe(w), UNKNOWN);
    }

    private static void closed() {
        Tried.by("is the same as or a NEIGHBOUR of its last one now: 1, 0 (none: 1). UNKNOWN.");
        for (Tried.Maker m : all())
            for (int w : NO_WATCHERS) refused("closed(" + w + ")", m, x -> x.closed(w), UNKNOWN);
    }

    private static void shift() {
        Tried.by("SHIFT of a WATCHER: what it was. UNKNOWN; OUTSIDE.");
        int[] noShifts = {-1, 6, 7, 32, MIN, MAX};
        for (Tried.Maker m : all()) {
            for (int w : NO_WATCHERS)
                for (int v : with(noShifts, 0, 5))
                    refused("shift(" + w + ", " + v + ")", m, x -> x.shift(w, v), UNKNOWN);
            for (int w = 0; w < 4; w++)
                for (int v : noShifts) {
                    int known = w;
                    refused("shift(" + known + ", " + v + ")", m, x -> x.shift(known, v), OUTSIDE);
                }
        }
    }

    private static void where() {
        Tried.by("CELL of a WATCHER at a TIME (0 to 9999); NONE: it has no ROUND. UNKNOWN; OUTSIDE.");
        for (Tried.Maker m : all()) {
            for (int w : NO_WATCHERS)
                for (int t : with(NO_TIMES, 0, 9999))
                    refused("where(" + w + ", " + t + ")", m, x -> x.where(w, t), UNKNOWN);
            for (int w = 0; w < 4; w++) // with a round and without
                for (int t : NO_TIMES) {
                    int known = w;
                    refused("where(" + known + ", " + t + ")", m, x -> x.where(known, t), OUTSIDE);
                }
        }
        for (int t : new int[] {0, 1, 9999}) {
            refused("no round at " + t, RefusalTests::fresh, x -> x.where(3, t), NONE);
            refused("no round at " + t, RefusalTests::furnished, x -> x.where(1, t), NONE);
        }
    }

    private static void watched() {
        Tried.by("Whether a CELL is WATCHED at a TIME: 1, 0. UNKNOWN; OUTSIDE.");
        for (Tried.Maker m : all()) {
            for (int c : noCells(m))
                for (int t : with(NO_TIMES, 0, 9999))
                    refused("watched(" + c + ", " + t + ")", m, x -> x.watched(c, t), UNKNOWN);
            for (int c = 0; c < cells(m); c++)
                for (int t : NO_TIMES) {
                    int known = c;
                    refused("watched(" + known + ", " + t + ")", m, x -> x.watched(known, t), OUTSIDE);
                }
        }
    }

    private static void gap() {
        Tried.by("THE GAP of a PICTURE; NONE. UNKNOWN.");
        for (Tried.Maker m : all())
            for (int p : noPictures(m)) refused("gap(" + p + ")", m, x -> x.gap(p), UNKNOWN);
    }

    private static void theft() {
        Tried.by("How long THE SOONEST THEFT takes; NONE. UNKNOWN: picture, cell; OUTSIDE: time (0 to 9999).");
        for (Tried.Maker m : all()) {
            for (int p : noPictures(m))
                for (int c : with(noCells(m), 0, cells(m) - 1))
                    for (int t : with(NO_TIMES, 0, 9999))
                        refused("theft(" + p + ", " + c + ", " + t + ")", m, x -> x.theft(p, c, t), UNKNOWN);
            for (int p = 0; p < m.make().count(2); p++) {
                int known = p;
                for (int c : noCells(m))
                    for (int t : with(NO_TIMES, 0, 9999))
                        refused("theft(" + p + ", " + c + ", " + t + ")", m, x -> x.theft(known, c, t), UNKNOWN);
                for (int c : new int[] {0, 2, 3, cells(m) - 1}) // also where one may not stand
                    for (int t : NO_TIMES)
                        refused("theft(" + p + ", " + c + ", " + t + ")", m, x -> x.theft(known, c, t), OUTSIDE);
            }
        }
    }

    private static void theftStep() {
        Tried.by("Step i of it; NONE. As theft().");
        int[] steps = with(NO_STEPS, 0);
        for (Tried.Maker m : all())
            for (int i : steps) {
                for (int p : noPictures(m))
                    for (int c : with(noCells(m), 0))
                        for (int t : new int[] {-1, 0, 9999, 10000})
                            refused("theftStep(" + p + ", " + c + ", " + t + ", " + i + ")", m,
                                x -> x.theftStep(p, c, t, i), UNKNOWN);
                for (int p = 0; p < m.make().count(2); p++) {
                    int known = p;
                    for (int c : noCells(m))
                        for (int t : new int[] {-1, 0, 9999, 10000})
                            refused("theftStep(" + p + ", " + c + ", " + t + ", " + i + ")", m,
                                x -> x.theftStep(known, c, t, i), UNKNOWN);
                    for (int c : new int[] {0, 2, 3, cells(m) - 1})
                        for (int t : NO_TIMES)
                            refused("theftStep(" + p + ", " + c + ", " + t + ", " + i + ")", m,
                                x -> x.theftStep(known, c, t, i), OUTSIDE);
                }
            }
    }

    private static void hours() {
        Tried.by("How many GOOD HOURS there are. UNKNOWN: picture, cell.");
        for (Tried.Maker m : all()) {
            for (int p : noPictures(m))
                for (int c : with(noCells(m), 0, cells(m) - 1))
                    refused("hours(" + p + ", " + c + ")", m, x -> x.hours(p, c), UNKNOWN);
            for (int p = 0; p < m.make().count(2); p++)
                for (int c : noCells(m)) {
                    int known = p;
                    refused("hours(" + known + ", " + c + ")", m, x -> x.hours(known, c), UNKNOWN);
                }
        }
    }

    private static void count() {
        Tried.by("PICTURES (2), WATCHERS with a ROUND (3), CELLS on which one may STAND (4). OUTSIDE.");
        for (Tried.Maker m : all())
            for (int what : new int[] {-1, 5, 6, -9, 32, MIN, MAX})
                refused("count(" + what + ")", m, x -> x.count(what), OUTSIDE);
    }

    /** Each as many refusals at once as its call names, and then one fewer by one. */
    private static void severalAtOnce() {
        Tried.by("REFUSALS, of several the first that a call names");
        Tried.Maker m = RefusalTests::full;
        refused("picture: cell, facing, full", m, x -> x.picture(64, 4), UNKNOWN);
        refused("picture: facing, no floor, full", m, x -> x.picture(60, 4), OUTSIDE);
        refused("picture: no floor, full", m, x -> x.picture(60, 3), STATE);
        refused("picture: full", m, x -> x.picture(59, 3), FULL);
        refused("step: watcher, cell", m, x -> x.step(4, 64), UNKNOWN);
        refused("step: cell, full", m, x -> x.step(3, 64), UNKNOWN);
        refused("step: no standing, full", m, x -> x.step(3, 60), STATE);
        refused("step: no neighbour, full", m, x -> x.step(3, 63), STATE);
        refused("step: full", m, x -> x.step(3, 13), FULL);
        refused("cell: cell, kind", m, x -> x.cell(64, 4), UNKNOWN);
        refused("about: picture, what", m, x -> x.about(8, 2), UNKNOWN);
        refused("shift: watcher, number", m, x -> x.shift(4, 6), UNKNOWN);
        refused("where: watcher, time", m, x -> x.where(4, 10000), UNKNOWN);
        refused("watched: cell, time", m, x -> x.watched(64, 10000), UNKNOWN);
        refused("theft: picture, cell, time", m, x -> x.theft(8, 64, 10000), UNKNOWN);
        refused("theft: cell, time", m, x -> x.theft(7, 64, 10000), UNKNOWN);
        refused("theft: time, no standing", m, x -> x.theft(7, 60, 10000), OUTSIDE);
        refused("theftStep: time, no such step", m, x -> x.theftStep(7, 63, 10000, -1), OUTSIDE);
        refused("tourStep: cell, no such step", m, x -> x.tourStep(64, -1), UNKNOWN);
        refused("tourStep: no standing, no such step", m, x -> x.tourStep(60, -1), STATE);
    }

    /** Not refused, but told to change nothing as little: the promises name what each call sets. */
    private static void readingChangesNothing() {
        Tried.by("Nothing is promised beyond the answers and state changes described above");
        Tried.Call[] reading = {
            x -> x.kind(0), x -> x.far(0, 3), x -> x.sees(3, 0), x -> x.view(1), x -> x.best(), x -> x.about(0, 0),
            x -> x.about(0, 1), x -> x.seen(0, 1), x -> x.from(0), x -> x.fewest(), x -> x.post(0), x -> x.tour(0),
            x -> x.tourStep(0, 0), x -> x.closed(0), x -> x.where(0, 9999), x -> x.watched(0, 9999),
            x -> x.period(), x -> x.gap(0), x -> x.worst(), x -> x.theft(0, 1, 9999),
            x -> x.theftStep(0, 1, 9999, 0), x -> x.hours(0, 1), x -> x.count(0), x -> x.count(1), x -> x.count(2),
            x -> x.count(3), x -> x.count(4)};
        for (Tried.Maker m : all())
            for (int n = 0; n < reading.length; n++) {
                WatchedHalls x = m.make();
                int first = reading[n].ask(x);
                Tried.due("reading call " + n + " answers the same again", reading[n].ask(x), first);
                Tried.due("reading call " + n + " changes nothing", Tried.stateOf(x), Tried.stateOf(m.make()));
            }
    }
}
