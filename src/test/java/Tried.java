import java.nio.file.Files;
import java.nio.file.Path;
import java.util.Arrays;
import java.util.LinkedHashSet;
import java.util.Set;

/** What the tests by sentence share: the sentence that is tried, drawn halls, and whole states. */
final class Tried {
    static final int UNKNOWN = -1, OUTSIDE = -2, STATE = -3, FULL = -4, NONE = -9;
    static final int FLOOR = 0, WALL = 1, GLASS = 2, CURTAIN = 3;
    static final int MIN = Integer.MIN_VALUE, MAX = Integer.MAX_VALUE;

    /** A call on an object, for tables of calls. */
    interface Call {
        int ask(WatchedHalls x);
    }

    /** Makes objects that are all alike. */
    interface Maker {
        WatchedHalls make();
    }

    private static final Path DOCUMENT = Path.of("../shared/DOC.md");
    private static final Set<String> SENTENCES = new LinkedHashSet<>();
    private static String sentence = "";
    private static int asked = 0;
    private static int wrong = 0;

    private Tried() {
    }

    /** What is due from here on is due by these words of the document. */
    static void by(String words) {
        sentence = words;
        SENTENCES.add(words);
    }

    static void due(String what, int got, int want) {
        asked++;
        if (got != want) {
            wrong++;
            System.out.println("\"" + sentence + "\": " + what + ": " + got + ", due is " + want);
        }
    }

    static void due(String what, int[] got, int... want) {
        asked++;
        if (!Arrays.equals(got, want)) {
            wrong++;
            System.out.println("\"" + sentence + "\": " + what + ": " + Arrays.toString(got)
                + ", due is " + Arrays.toString(want));
        }
    }

    static void end(String name) throws Exception {
        tellLostSentences();
        System.out.println(name + ": " + SENTENCES.size() + " sentences, " + asked + " answers, "
            + wrong + " not as due");
        if (wrong != 0 || asked == 0) System.exit(1);
    }

    /** No failure: what a sentence asked for holds, but a next session should read the document anew. */
    private static void tellLostSentences() throws Exception {
        if (!Files.exists(DOCUMENT)) return;
        String document = Files.readString(DOCUMENT).replaceAll("\\s+", " ");
        for (String words : SENTENCES)
            if (!document.contains(words)) System.out.println("no longer in the document: " + words);
    }

    /** A hall drawn: '.' floor, '#' wall, '=' glass, '%' curtain. */
    static WatchedHalls drawn(String... rows) {
        WatchedHalls x = new WatchedHalls();
        x.hall(rows[0].length(), rows.length);
        for (int c = 0; c < rows[0].length() * rows.length; c++) {
            int kind = ".#=%".indexOf(rows[c / rows[0].length()].charAt(c % rows[0].length()));
            if (kind != FLOOR) x.cell(c, kind);
        }
        return x;
    }

    static WatchedHalls open(int w, int h) {
        WatchedHalls x = new WatchedHalls();
        x.hall(w, h);
        return x;
    }

    static WatchedHalls go(WatchedHalls x, int watcher, int... cells) {
        for (int i = 0; i < cells.length; i++) due("step " + i + " of a round", x.step(watcher, cells[i]), i + 1);
        return x;
    }

    /** A picture in a curtain: it is seen from its own cell alone. */
    static void hangInCurtain(WatchedHalls x, int cell) {
        x.cell(cell, FLOOR);
        x.picture(cell, 0);
        x.cell(cell, CURTAIN);
    }

    static int[] tourOf(WatchedHalls x, int cell) {
        int[] d = new int[Math.max(0, x.tour(cell))];
        for (int i = 0; i < d.length; i++) d[i] = x.tourStep(cell, i);
        return d;
    }

    static int[] theftOf(WatchedHalls x, int picture, int cell, int time) {
        int[] d = new int[Math.max(0, x.theft(picture, cell, time))];
        for (int i = 0; i < d.length; i++) d[i] = x.theftStep(picture, cell, time, i);
        return d;
    }

    static int[] postsOf(WatchedHalls x) {
        int[] d = new int[Math.max(0, x.fewest())];
        for (int i = 0; i < d.length; i++) d[i] = x.post(i);
        return d;
    }

    static int[] shiftsOf(WatchedHalls x) {
        int[] d = new int[4];
        for (int w = 0; w < 4; w++) {
            d[w] = x.shift(w, 0);
            x.shift(w, d[w]);
        }
        return d;
    }

    /** All that an object holds, as its calls tell it. The object is of no use behind it. */
    static int[] stateOf(WatchedHalls x) {
        int[] d = new int[160];
        int n = 0;
        for (int what = 0; what < 5; what++) d[n++] = x.count(what);
        d[n++] = x.best();
        d[n++] = x.fewest();
        d[n++] = x.worst();
        d[n++] = x.period();
        for (int c = 0; c < 64; c++) d[n++] = x.kind(c);
        for (int p = 0; p < 8; p++) {
            d[n++] = x.about(p, 0);
            d[n++] = x.about(p, 1);
        }
        for (int w = 0; w < 4; w++) {
            d[n++] = x.shift(w, 0);
            for (int t = 0; t < 6; t++) d[n++] = x.where(w, t);
        }
        for (int w = 0; w < 4; w++) d[n++] = x.wipe(w);
        d[n++] = x.law(0);
        d[n++] = x.range(1);
        return Arrays.copyOf(d, n);
    }
}
