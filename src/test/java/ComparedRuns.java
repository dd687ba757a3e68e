import java.util.Random;

/**
 * Runs of chance calls, each answer compared with that of PlainHalls. The seeds are fixed. What is asked
 * next hangs on PlainHalls alone, so that an object has no more calls than those that are compared:
 * behind its 512th nothing is promised.
 */
public final class ComparedRuns {
    private static final String[] NAMES = {
        "hall", "cell", "kind", "law", "range", "far", "sees", "view", "best", "picture", "about", "seen",
        "from", "fewest", "post", "tour", "tourStep", "step", "wipe", "closed", "shift", "where", "watched",
        "period", "gap", "worst", "arrange", "theft", "theftStep", "hours", "turn", "mirror", "count"};
    private static final int[] OFTEN = {
        1, 30, 3, 4, 4, 6, 10, 5, 3, 14, 5, 8, 6, 5, 6, 6, 8, 40, 2, 5, 10, 6, 8, 4, 6, 4, 4, 10, 12, 5, 3, 3, 4};
    private static final int[] ODD = {-1, -2, 64, 25, 9, 8, 6, 10000, -9, Integer.MIN_VALUE, Integer.MAX_VALUE, 100};

    private static final int MOST_CALLS = 512;

    private static int wrong = 0;
    private static int calls = 0;
    private static final long[] asked = new long[NAMES.length];
    private static final long[] answered = new long[NAMES.length];

    public static void main(String[] args) {
        int runs = args.length > 0 ? Integer.parseInt(args[0]) : 600;
        long seed0 = args.length > 1 ? Long.parseLong(args[1]) : 1;
        for (long seed = seed0; seed < seed0 + runs && wrong < 10; seed++) run(seed);
        if (args.length > 0)
            for (int i = 0; i < NAMES.length; i++) System.out.println(NAMES[i] + " " + asked[i] + ", not refused or NONE " + answered[i]);
        System.out.println(wrong == 0 ? "ComparedRuns: all answers are alike" : "ComparedRuns: " + wrong + " are not");
        if (wrong != 0) System.exit(1);
    }

    private static void run(long seed) {
        Random chance = new Random(seed);
        WatchedHalls x = new WatchedHalls();
        calls = 0;
        PlainHalls y = new PlainHalls();
        StringBuilder told = new StringBuilder();
        int most = seed % 3 == 0 ? 8 : 5;
        int blocked = chance.nextInt(5);
        if (seed % 4 != 0) {
            int[] a = {0, 2 + chance.nextInt(most - 1), 2 + chance.nextInt(most - 1), 0, 0};
            same(seed, told, a, x, y);
            furnish(chance, seed, told, x, y, blocked);
        }
        for (int n = 0; n < 120; n++) if (!same(seed, told, next(chance, y, blocked), x, y)) return;
    }

    /** Walls, pictures and rounds at once, so that the calls behind have something to tell of. */
    private static void furnish(Random chance, long seed, StringBuilder told, WatchedHalls x, PlainHalls y, int blocked) {
        int size = y.count(0) * y.count(1);
        for (int n = 0; n < size * blocked / 12; n++)
            same(seed, told, new int[] {1, chance.nextInt(size), 1 + chance.nextInt(3), 0, 0}, x, y);
        if (chance.nextInt(3) > 0)
            same(seed, told, new int[] {4, 1 + chance.nextInt(4), 0, 0, 0}, x, y);
        if (chance.nextInt(3) > 0)
            same(seed, told, new int[] {3, chance.nextInt(3), 0, 0, 0}, x, y);
        int hung = chance.nextInt(9);
        for (int n = 0; n < hung; n++)
            same(seed, told, new int[] {9, chance.nextInt(size), chance.nextInt(4), 0, 0}, x, y);
        // with many watchers there is hardly a theft: half of the runs have two at most, who see little
        boolean few = chance.nextBoolean();
        if (few) same(seed, told, new int[] {4, 1 + chance.nextInt(2), 0, 0, 0}, x, y);
        int watchers = chance.nextInt(few ? 3 : 5);
        for (int v = 0; v < watchers; v++)
            for (int n = 0, c = chance.nextInt(size), long6 = 1 + chance.nextInt(6); n < long6; n++) {
                if (n > 0) c = beside(chance, y, c);
                same(seed, told, new int[] {17, v, c, 0, 0}, x, y);
            }
    }

    private static int beside(Random chance, PlainHalls y, int c) {
        for (int n = 0; n < 20; n++) {
            int o = y.by(c, chance.nextInt(5));
            if (o >= 0) return o;
        }
        return c;
    }

    private static int[] next(Random chance, PlainHalls y, int blocked) {
        int total = 0;
        for (int o : OFTEN) total += o;
        int at = chance.nextInt(total), what = 0;
        while (at >= OFTEN[what]) at -= OFTEN[what++];
        int size = y.count(0) * y.count(1), hung = Math.max(1, y.count(2));
        int c = chance.nextInt(size), p = chance.nextInt(hung), v = chance.nextInt(4);
        int t = chance.nextInt(4) == 0 ? chance.nextInt(10000) : chance.nextInt(70);
        int[] a = {what, 0, 0, 0, 0};
        switch (NAMES[what]) {
            case "hall": a[1] = 2 + chance.nextInt(7); a[2] = 2 + chance.nextInt(7); break;
            case "cell": a[1] = c; a[2] = chance.nextInt(12) < 7 - blocked ? 0 : chance.nextInt(4); break;
            case "law": a[1] = chance.nextInt(3); break;
            case "range": a[1] = chance.nextInt(3) == 0 ? 1 + chance.nextInt(8) : 1 + chance.nextInt(3); break;
            case "far": case "sees": a[1] = c; a[2] = chance.nextInt(size); break;
            case "picture": a[1] = c; a[2] = chance.nextInt(4); break;
            case "about": a[1] = p; a[2] = chance.nextInt(2); break;
            case "seen": case "hours": a[1] = p; a[2] = c; break;
            case "post": a[1] = chance.nextInt(5); break;
            case "tourStep": a[1] = c; a[2] = chance.nextInt(16); break;
            case "step":
                a[1] = v;
                a[2] = y.where(v, 0) == PlainHalls.NONE ? c : beside(chance, y, y.lastOf(v));
                break;
            case "wipe": case "closed": a[1] = v; break;
            case "shift": a[1] = v; a[2] = chance.nextInt(6); break;
            case "where": a[1] = v; a[2] = t; break;
            case "watched": a[1] = c; a[2] = t; break;
            case "gap": a[1] = p; break;
            case "theft": case "theftStep":
                a[1] = p;
                a[2] = c;
                for (int n = 0; n < 4 && (y.watched(a[2], t) != 0 || y.kind(a[2]) % 3 != 0); n++) a[2] = chance.nextInt(size);
                a[3] = t;
                a[4] = chance.nextInt(12);
                break;
            case "count": a[1] = chance.nextInt(5); break;
            default: a[1] = c;
        }
        if (chance.nextInt(25) == 0) a[1 + chance.nextInt(4)] = ODD[chance.nextInt(ODD.length)];
        return a;
    }

    private static boolean same(long seed, StringBuilder told, int[] a, WatchedHalls x, PlainHalls y) {
        if (++calls > MOST_CALLS) throw new IllegalStateException("seed " + seed + " asks one object too often");
        int due = plain(y, a);
        int got;
        String text = NAMES[a[0]] + "(" + a[1] + ", " + a[2] + ", " + a[3] + ", " + a[4] + ")";
        try {
            got = program(x, a);
        } catch (RuntimeException e) {
            System.out.println("seed " + seed + ": " + told + text + " threw " + e);
            wrong++;
            return false;
        }
        asked[a[0]]++;
        if (due >= 0) answered[a[0]]++;
        if (got != due) {
            System.out.println("seed " + seed + ": " + told + text + " answered " + got + ", due is " + due);
            wrong++;
            return false;
        }
        told.append(text).append(' ');
        return true;
    }

    private static int program(WatchedHalls x, int[] a) {
        switch (NAMES[a[0]]) {
            case "hall": return x.hall(a[1], a[2]);
            case "cell": return x.cell(a[1], a[2]);
            case "kind": return x.kind(a[1]);
            case "law": return x.law(a[1]);
            case "range": return x.range(a[1]);
            case "far": return x.far(a[1], a[2]);
            case "sees": return x.sees(a[1], a[2]);
            case "view": return x.view(a[1]);
            case "best": return x.best();
            case "picture": return x.picture(a[1], a[2]);
            case "about": return x.about(a[1], a[2]);
            case "seen": return x.seen(a[1], a[2]);
            case "from": return x.from(a[1]);
            case "fewest": return x.fewest();
            case "post": return x.post(a[1]);
            case "tour": return x.tour(a[1]);
            case "tourStep": return x.tourStep(a[1], a[2]);
            case "step": return x.step(a[1], a[2]);
            case "wipe": return x.wipe(a[1]);
            case "closed": return x.closed(a[1]);
            case "shift": return x.shift(a[1], a[2]);
            case "where": return x.where(a[1], a[2]);
            case "watched": return x.watched(a[1], a[2]);
            case "period": return x.period();
            case "gap": return x.gap(a[1]);
            case "worst": return x.worst();
            case "arrange": return x.arrange();
            case "theft": return x.theft(a[1], a[2], a[3]);
            case "theftStep": return x.theftStep(a[1], a[2], a[3], a[4]);
            case "hours": return x.hours(a[1], a[2]);
            case "turn": return x.turn();
            case "mirror": return x.mirror();
            default: return x.count(a[1]);
        }
    }

    private static int plain(PlainHalls y, int[] a) {
        switch (NAMES[a[0]]) {
            case "hall": return y.hall(a[1], a[2]);
            case "cell": return y.cell(a[1], a[2]);
            case "kind": return y.kind(a[1]);
            case "law": return y.law(a[1]);
            case "range": return y.range(a[1]);
            case "far": return y.far(a[1], a[2]);
            case "sees": return y.sees(a[1], a[2]);
            case "view": return y.view(a[1]);
            case "best": return y.best();
            case "picture": return y.picture(a[1], a[2]);
            case "about": return y.about(a[1], a[2]);
            case "seen": return y.seen(a[1], a[2]);
            case "from": return y.from(a[1]);
            case "fewest": return y.fewest();
            case "post": return y.post(a[1]);
            case "tour": return y.tour(a[1]);
            case "tourStep": return y.tourStep(a[1], a[2]);
            case "step": return y.step(a[1], a[2]);
            case "wipe": return y.wipe(a[1]);
            case "closed": return y.closed(a[1]);
            case "shift": return y.shift(a[1], a[2]);
            case "where": return y.where(a[1], a[2]);
            case "watched": return y.watched(a[1], a[2]);
            case "period": return y.period();
            case "gap": return y.gap(a[1]);
            case "worst": return y.worst();
            case "arrange": return y.arrange();
            case "theft": return y.theft(a[1], a[2], a[3]);
            case "theftStep": return y.theftStep(a[1], a[2], a[3], a[4]);
            case "hours": return y.hours(a[1], a[2]);
            case "turn": return y.turn();
            case "mirror": return y.mirror();
            default: return y.count(a[1]);
        }
    }
}
