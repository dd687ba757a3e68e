import java.util.ArrayList;
import java.util.Arrays;
import java.util.HashMap;
import java.util.List;
import java.util.Map;
import java.util.TreeMap;

/**
 * The document once more, told as plainly as can be and by other ways than the program's: boards
 * are booleans, straight ways are cut with squares as fractions, ways are texts that are compared,
 * sets and shifts are all gone through. Slow, and only for halls that are compared with it.
 */
final class PlainHalls {
    static final int UNKNOWN = -1, OUTSIDE = -2, STATE = -3, FULL = -4, NONE = -9;

    private int w = 5, h = 5, law = 2, range = 8;
    private int[] kinds = new int[25];
    private final List<int[]> pictures = new ArrayList<>();
    private final List<List<Integer>> rounds = new ArrayList<>();
    private int[] shifts = new int[4];

    PlainHalls() {
        for (int i = 0; i < 4; i++) rounds.add(new ArrayList<>());
    }

    private boolean noCell(int c) { return c < 0 || c >= w * h; }
    private boolean noPicture(int p) { return p < 0 || p >= pictures.size(); }
    private boolean noWatcher(int v) { return v < 0 || v > 3; }
    private boolean noTime(int t) { return t < 0 || t > 9999; }
    private int x(int c) { return c % w; }
    private int y(int c) { return c / w; }
    private boolean stand(int c) { return kinds[c] == 0 || kinds[c] == 3; }
    private boolean blocks(int cx, int cy) { int k = kinds[cy * w + cx]; return k == 1 || k == 3; }

    private boolean neighbours(int a, int b) {
        if (!stand(a) || !stand(b)) return false;
        if (y(a) == y(b)) return x(a) - x(b) == 1 || x(b) - x(a) == 1;
        return x(a) == x(b) && (y(a) - y(b) == 1 || y(b) - y(a) == 1);
    }

    /** The neighbour by a direction, or -1; 4 stays. */
    int by(int c, int d) {
        if (d == 4) return stand(c) ? c : -1;
        int nx = x(c) + (d == 0 ? 1 : d == 2 ? -1 : 0), ny = y(c) + (d == 1 ? 1 : d == 3 ? -1 : 0);
        if (nx < 0 || ny < 0 || nx >= w || ny >= h) return -1;
        return neighbours(c, ny * w + nx) ? ny * w + nx : -1;
    }

    int hall(int nw, int nh) {
        if (nw < 2 || nw > 8 || nh < 2 || nh > 8) return OUTSIDE;
        w = nw; h = nh; kinds = new int[w * h];
        pictures.clear();
        for (List<Integer> r : rounds) r.clear();
        shifts = new int[4];
        return w * h;
    }

    int cell(int c, int k) {
        if (noCell(c)) return UNKNOWN;
        if (k < 0 || k > 3) return OUTSIDE;
        int was = kinds[c]; kinds[c] = k; return was;
    }

    int kind(int c) { return noCell(c) ? UNKNOWN : kinds[c]; }
    int law(int v) { if (v < 0 || v > 2) return OUTSIDE; int was = law; law = v; return was; }
    int range(int v) { if (v < 1 || v > 8) return OUTSIDE; int was = range; range = v; return was; }

    int far(int a, int b) {
        if (noCell(a) || noCell(b)) return UNKNOWN;
        if (!stand(a) || !stand(b)) return NONE;
        int[] d = new int[w * h];
        Arrays.fill(d, 1000);
        d[a] = 0;
        for (int n = 0; n < w * h; n++)
            for (int c = 0; c < w * h; c++)
                for (int m = 0; m < 4; m++)
                    if (by(c, m) >= 0) d[by(c, m)] = Math.min(d[by(c, m)], d[c] + 1);
        return d[b] >= 1000 ? NONE : d[b];
    }

    private boolean see(int a, int b) {
        if (a == b) return stand(a);
        if (kinds[a] != 0 || kinds[b] != 0) return false;
        int dx = Math.abs(x(a) - x(b)), dy = Math.abs(y(a) - y(b));
        if (dx > range || dy > range) return false;
        if (law == 0) return x(a) == x(b) ? columnFree(a, b) : y(a) == y(b) && rowFree(a, b);
        if (law == 1) return boxFree(a, b);
        return straightFree(a, b);
    }

    private boolean columnFree(int a, int b) {
        for (int c = Math.min(a, b) + w; c < Math.max(a, b); c += w) if (kinds[c] == 1 || kinds[c] == 3) return false;
        return true;
    }

    private boolean rowFree(int a, int b) {
        for (int c = Math.min(a, b) + 1; c < Math.max(a, b); c++) if (kinds[c] == 1 || kinds[c] == 3) return false;
        return true;
    }

    private boolean boxFree(int a, int b) {
        for (int c = 0; c < w * h; c++) {
            boolean inX = (x(c) - x(a)) * (x(c) - x(b)) <= 0, inY = (y(c) - y(a)) * (y(c) - y(b)) <= 0;
            if (inX && inY && (kinds[c] == 1 || kinds[c] == 3)) return false;
        }
        return true;
    }

    /** Coordinates are doubled, so that middles are odd and corners even. */
    private boolean straightFree(int a, int b) {
        int ax = 2 * x(a) + 1, ay = 2 * y(a) + 1, bx = 2 * x(b) + 1, by = 2 * y(b) + 1;
        for (int c = 0; c < w * h; c++)
            if ((kinds[c] == 1 || kinds[c] == 3) && cutsInside(ax, ay, bx, by, 2 * x(c), 2 * y(c))) return false;
        for (int px = 2; px < 2 * w; px += 2)
            for (int py = 2; py < 2 * h; py += 2) {
                boolean on = (long) (bx - ax) * (py - ay) == (long) (by - ay) * (px - ax)
                    && (px - ax) * (px - bx) <= 0 && (py - ay) * (py - by) <= 0;
                if (!on) continue;
                int cx = px / 2, cy = py / 2;
                // the way falls or rises: it touches there alone the two of the other slope
                boolean falls = (bx - ax > 0) == (by - ay > 0);
                boolean both = falls ? blocks(cx, cy - 1) && blocks(cx - 1, cy) : blocks(cx - 1, cy - 1) && blocks(cx, cy);
                if (both) return false;
            }
        return true;
    }

    /** Whether a + s (b - a), 0 <= s <= 1, is somewhere inside the open square (qx, qx+2) by (qy, qy+2). */
    private boolean cutsInside(int ax, int ay, int bx, int by, int qx, int qy) {
        int[][] spans = {{ax, bx, qx}, {ay, by, qy}};
        // the part of the way inside is from n1 / d1 to n2 / d2; divisors are kept above 0
        long n1 = 0, d1 = 1, n2 = 1, d2 = 1;
        for (int[] s : spans) {
            int d = s[1] - s[0];
            if (d == 0) {
                if (!(s[0] > s[2] && s[0] < s[2] + 2)) return false;
                continue;
            }
            long in = s[2] - s[0], out = s[2] + 2 - s[0], div = d;
            if (div < 0) { long t = in; in = -out; out = -t; div = -div; }
            if (in * d1 > n1 * div) { n1 = in; d1 = div; }
            if (out * d2 < n2 * div) { n2 = out; d2 = div; }
        }
        return n1 * d2 < n2 * d1;
    }

    int sees(int a, int b) { return noCell(a) || noCell(b) ? UNKNOWN : see(a, b) ? 1 : 0; }

    int view(int c) {
        if (noCell(c)) return UNKNOWN;
        int n = 0;
        for (int o = 0; o < w * h; o++) if (see(c, o)) n++;
        return n;
    }

    int best() {
        int b = NONE;
        for (int c = 0; c < w * h; c++) if (stand(c) && (b == NONE || view(c) > view(b))) b = c;
        return b;
    }

    int picture(int c, int f) {
        if (noCell(c)) return UNKNOWN;
        if (f < 0 || f > 3) return OUTSIDE;
        if (kinds[c] != 0) return STATE;
        if (pictures.size() == 8) return FULL;
        pictures.add(new int[] {c, f});
        return pictures.size() - 1;
    }

    int about(int p, int what) {
        if (noPicture(p)) return UNKNOWN;
        return what < 0 || what > 1 ? OUTSIDE : pictures.get(p)[what];
    }

    private boolean shown(int p, int c) {
        int o = pictures.get(p)[0];
        if (!see(c, o)) return false;
        switch (pictures.get(p)[1]) {
            case 0: return x(c) >= x(o);
            case 1: return y(c) >= y(o);
            case 2: return x(c) <= x(o);
            default: return y(c) <= y(o);
        }
    }

    int seen(int p, int c) { return noPicture(p) || noCell(c) ? UNKNOWN : shown(p, c) ? 1 : 0; }

    int from(int c) {
        if (noCell(c)) return UNKNOWN;
        int s = 0;
        for (int p = 0; p < pictures.size(); p++) if (shown(p, c)) s += 1 << p;
        return s;
    }

    private int[] sets() {
        int[] s = new int[w * h];
        for (int c = 0; c < w * h; c++) s[c] = from(c);
        return s;
    }

    /** All choices of k cells in order, the first that shows all. */
    private int[] posts() {
        int[] s = sets();
        for (int k = 0; k <= pictures.size(); k++) {
            int[] chosen = new int[k];
            if (choose(s, chosen, 0, 0, 0)) return chosen;
        }
        return null;
    }

    private boolean choose(int[] s, int[] chosen, int n, int next, int have) {
        if (n == chosen.length) return have == (1 << pictures.size()) - 1;
        for (int c = next; c < w * h; c++) {
            // a cell that shows nothing new is in no choice of fewest
            if ((s[c] & ~have) == 0) continue;
            chosen[n] = c;
            if (choose(s, chosen, n + 1, c + 1, have | s[c])) return true;
        }
        return false;
    }

    int fewest() { int[] p = posts(); return p == null ? NONE : p.length; }
    int post(int i) { int[] p = posts(); return p == null || i < 0 || i >= p.length ? NONE : p[i]; }

    /** The shortest tour as a text of directions, or null. */
    private String tourText(int start) {
        int[] s = sets();
        int all = (1 << pictures.size()) - 1;
        Map<Integer, String> layer = new HashMap<>(), known = new HashMap<>();
        layer.put(s[start] * 64 + start, "");
        while (!layer.isEmpty()) {
            if (layer.containsKey(all * 64 + start)) return layer.get(all * 64 + start);
            known.putAll(layer);
            Map<Integer, String> next = new HashMap<>();
            for (Map.Entry<Integer, String> e : layer.entrySet()) {
                int c = e.getKey() % 64, m = e.getKey() / 64;
                for (int d = 0; d < 4; d++) {
                    int o = by(c, d);
                    if (o < 0) continue;
                    int key = (m | s[o]) * 64 + o;
                    String way = e.getValue() + d;
                    if (known.containsKey(key)) continue;
                    if (!next.containsKey(key) || way.compareTo(next.get(key)) < 0) next.put(key, way);
                }
            }
            layer = next;
        }
        return null;
    }

    int tour(int c) {
        if (noCell(c)) return UNKNOWN;
        if (!stand(c)) return STATE;
        String t = tourText(c);
        return t == null ? NONE : t.length();
    }

    int tourStep(int c, int i) {
        if (noCell(c)) return UNKNOWN;
        if (!stand(c)) return STATE;
        String t = tourText(c);
        return t == null || i < 0 || i >= t.length() ? NONE : t.charAt(i) - '0';
    }

    int step(int v, int c) {
        if (noWatcher(v) || noCell(c)) return UNKNOWN;
        List<Integer> r = rounds.get(v);
        if (!stand(c)) return STATE;
        if (!r.isEmpty() && r.get(r.size() - 1) != c && !neighbours(r.get(r.size() - 1), c)) return STATE;
        if (r.size() == 6) return FULL;
        r.add(c);
        return r.size();
    }

    /** The last cell of a round that has one. */
    int lastOf(int v) { return rounds.get(v).get(rounds.get(v).size() - 1); }

    int wipe(int v) {
        if (noWatcher(v)) return UNKNOWN;
        int n = rounds.get(v).size();
        rounds.get(v).clear();
        return n;
    }

    int closed(int v) {
        if (noWatcher(v)) return UNKNOWN;
        List<Integer> r = rounds.get(v);
        if (r.isEmpty()) return 1;
        int a = r.get(0), b = r.get(r.size() - 1);
        return a == b || neighbours(a, b) ? 1 : 0;
    }

    int shift(int v, int s) {
        if (noWatcher(v)) return UNKNOWN;
        if (s < 0 || s > 5) return OUTSIDE;
        int was = shifts[v]; shifts[v] = s; return was;
    }

    private int place(int v, long t, int[] by) {
        List<Integer> r = rounds.get(v);
        return r.isEmpty() ? NONE : r.get((int) ((t + by[v]) % r.size()));
    }

    int where(int v, int t) {
        if (noWatcher(v)) return UNKNOWN;
        return noTime(t) ? OUTSIDE : place(v, t, shifts);
    }

    private boolean spied(int c, long t) {
        for (int v = 0; v < 4; v++) if (place(v, t, shifts) != NONE && see(place(v, t, shifts), c)) return true;
        return false;
    }

    int watched(int c, int t) {
        if (noCell(c)) return UNKNOWN;
        return noTime(t) ? OUTSIDE : spied(c, t) ? 1 : 0;
    }

    int period() {
        int n = 1;
        for (List<Integer> r : rounds)
            if (!r.isEmpty()) { int a = n; while (n % r.size() != 0) n += a; }
        return n;
    }

    private int gapBy(int p, int[] by) {
        int run = 0, most = 0;
        boolean ever = false;
        boolean[] shows = new boolean[w * h];
        for (int c = 0; c < w * h; c++) shows[c] = shown(p, c);
        for (int t = 0; t < 3 * 60; t++) {
            boolean in = false;
            for (int v = 0; v < 4; v++) in |= place(v, t, by) != NONE && shows[place(v, t, by)];
            run = in ? 0 : run + 1;
            ever |= in;
            most = Math.max(most, run);
        }
        return ever ? most : NONE;
    }

    int gap(int p) { return noPicture(p) ? UNKNOWN : gapBy(p, shifts); }

    private int worstBy(int[] by) {
        int most = 0;
        for (int p = 0; p < pictures.size(); p++) {
            int g = gapBy(p, by);
            if (g == NONE) return NONE;
            most = Math.max(most, g);
        }
        return most;
    }

    int worst() { return worstBy(shifts); }

    int arrange() {
        int[] n = new int[4], least = null;
        int leastGap = 0;
        for (int v = 0; v < 4; v++) n[v] = Math.max(1, rounds.get(v).size());
        for (int a = 0; a < n[0]; a++)
            for (int b = 0; b < n[1]; b++)
                for (int c = 0; c < n[2]; c++)
                    for (int d = 0; d < n[3]; d++) {
                        int[] by = {a, b, c, d};
                        int g = worstBy(by);
                        boolean better = least == null || (g != NONE && (leastGap == NONE || g < leastGap));
                        if (better) { least = by; leastGap = g; }
                    }
        shifts = least;
        return leastGap;
    }

    /** The soonest theft as a text of steps, or null. */
    private String theftText(int p, int start, int time) {
        int target = pictures.get(p)[0], n = period();
        if (!stand(start) || spied(start, time)) return null;
        Map<Integer, String> layer = new TreeMap<>(), known = new HashMap<>();
        layer.put((start == target ? 64 : 0) + start, "");
        for (long t = time; !layer.isEmpty(); t++) {
            if (layer.containsKey(64 + start)) return layer.get(64 + start);
            for (int k : layer.keySet()) known.put((int) (t % n) * 128 + k, "");
            Map<Integer, String> next = new TreeMap<>();
            for (Map.Entry<Integer, String> e : layer.entrySet()) {
                for (int d = 0; d < 5; d++) {
                    int o = by(e.getKey() % 64, d);
                    if (o < 0 || spied(o, t + 1)) continue;
                    int key = (e.getKey() >= 64 || o == target ? 64 : 0) + o;
                    String way = e.getValue() + d;
                    if (known.containsKey((int) ((t + 1) % n) * 128 + key)) continue;
                    if (!next.containsKey(key) || way.compareTo(next.get(key)) < 0) next.put(key, way);
                }
            }
            layer = next;
        }
        return null;
    }

    int theft(int p, int c, int t) {
        if (noPicture(p) || noCell(c)) return UNKNOWN;
        if (noTime(t)) return OUTSIDE;
        String s = theftText(p, c, t);
        return s == null ? NONE : s.length();
    }

    int theftStep(int p, int c, int t, int i) {
        if (noPicture(p) || noCell(c)) return UNKNOWN;
        if (noTime(t)) return OUTSIDE;
        String s = theftText(p, c, t);
        return s == null || i < 0 || i >= s.length() ? NONE : s.charAt(i) - '0';
    }

    int hours(int p, int c) {
        if (noPicture(p) || noCell(c)) return UNKNOWN;
        int n = 0;
        for (int t = 0; t < period(); t++) if (theftText(p, c, t) != null) n++;
        return n;
    }

    int turn() {
        int[] to = new int[w * h];
        for (int c = 0; c < w * h; c++) to[c] = x(c) * h + (h - 1 - y(c));
        move(to);
        for (int[] p : pictures) p[1] = (p[1] + 1) % 4;
        int t = w; w = h; h = t;
        return w;
    }

    int mirror() {
        int[] old = kinds, to = new int[w * h];
        for (int c = 0; c < w * h; c++) to[c] = y(c) * w + (w - 1 - x(c));
        move(to);
        for (int[] p : pictures) p[1] = p[1] == 0 ? 2 : p[1] == 2 ? 0 : p[1];
        int n = 0;
        for (int c = 0; c < w * h; c++) if (old[c] != kinds[c]) n++;
        return n;
    }

    private void move(int[] to) {
        int[] k = new int[w * h];
        for (int c = 0; c < w * h; c++) k[to[c]] = kinds[c];
        kinds = k;
        for (int[] p : pictures) p[0] = to[p[0]];
        for (List<Integer> r : rounds) r.replaceAll(c -> to[c]);
    }

    int count(int what) {
        int n = 0;
        switch (what) {
            case 0: return w;
            case 1: return h;
            case 2: return pictures.size();
            case 3: for (List<Integer> r : rounds) if (!r.isEmpty()) n++; return n;
            case 4: for (int c = 0; c < w * h; c++) if (stand(c)) n++; return n;
            default: return OUTSIDE;
        }
    }
}
