import java.util.Random;

/** Long runs of calls, drawn by fixed seeds, that PenTrails and the model must answer alike. */
public final class ModelTest {
    private static int wrong = 0;
    private static long calls = 0;

    private static void ended(String run, Both both) {
        calls += both.calls;
        if (both.wrong > 0) {
            wrong++;
            System.out.println(run + ": " + both.wrong + " answers differ");
        }
    }

    /** A drawing of strokes on a grid, so that many ends meet. */
    static String drawing(Random by, int strokes, int size, int step) {
        StringBuilder text = new StringBuilder("sheet size ");
        text.append(size).append(" join ").append(by.nextInt(4) == 0 ? by.nextInt(Math.min(51, size / 2 + 1)) : by.nextInt(3));
        if (by.nextBoolean()) {
            text.append(";home ").append(by.nextInt(size + 1)).append(' ').append(by.nextInt(size + 1));
        }
        for (int s = 0; s < strokes; s++) {
            int[] e = stroke(by, size, step);
            text.append(";stroke ").append(e[0]).append(' ').append(e[1]).append(' ').append(e[2]).append(' ').append(e[3]);
        }
        if (by.nextBoolean()) {
            text.append(";pace ").append(1 + by.nextInt(9)).append(' ').append(1 + by.nextInt(9));
        }
        return text.toString();
    }

    private static int[] stroke(Random by, int size, int step) {
        int most = size / step + 1;
        int[] e = new int[4];
        do {
            for (int i = 0; i < 4; i++) {
                e[i] = by.nextInt(most) * step;
            }
        } while (e[0] == e[2] && e[1] == e[3]);
        return e;
    }

    private static void told(int seed) {
        Random by = new Random(seed);
        Both both = new Both();
        int size = 2 + by.nextInt(by.nextBoolean() ? 20 : 199);
        int step = 1 + by.nextInt(Math.max(1, size / 2));
        both.sheet(drawing(by, seed % 3 == 0 ? 24 : by.nextInt(25), size, seed % 4 == 0 ? 1 : step));
        both.askAll();
        both.askNear();
        both.ask(34, 0, 0, 0, 0);
        both.askAll();
        ended("told " + seed, both);
    }

    /** Arms from one point, so that one part has up to 14 odd meetings to be paired, or more. */
    private static void star(int seed) {
        Random by = new Random(seed);
        Both both = new Both();
        int size = 4 + by.nextInt(by.nextBoolean() ? 10 : 190);
        int arms = 8 + by.nextInt(13);
        StringBuilder text = new StringBuilder("sheet size " + size + " join 0");
        for (int s = 0; s < arms; s++) {
            int x = by.nextInt(size + 1);
            int y = by.nextInt(size + 1);
            if (x != 2 || y != 2) {
                text.append(by.nextBoolean() ? ";stroke 2 2 " + x + " " + y : ";stroke " + x + " " + y + " 2 2");
            }
        }
        both.sheet(text.toString());
        both.askAll();
        ended("star " + seed, both);
    }

    private static final int[] EXTREMES = {Integer.MIN_VALUE, Integer.MIN_VALUE + 1, -3, -2, -1, 0, 1, 2, 9, 10, 23, 24,
        25, 47, 48, 49, 50, 51, 200, 201, 699, 700, 701, 99999, 100000, Integer.MAX_VALUE - 1, Integer.MAX_VALUE};

    /** Each call with each argument at and beyond all bounds: nothing but loose() ever throws. */
    private static void extremes(String text) {
        Both both = new Both();
        if (text != null) {
            both.sheet(text);
        }
        for (int call = 0; call < Both.CALLS; call++) {
            for (int a : EXTREMES) {
                for (int b : EXTREMES) {
                    both.ask(call, a, b, a, b);
                    both.ask(call, 0, a, b, 1);
                }
            }
        }
        both.askAll();
        ended("extremes of " + text, both);
    }

    private static int argument(Random by, int size) {
        switch (by.nextInt(12)) {
            case 0: return -1 + by.nextInt(60);
            case 1: return by.nextInt(3) == 0 ? by.nextInt() : by.nextInt(300);
            case 2: return size - 1 + by.nextInt(3);
            default: return by.nextInt(size + 1);
        }
    }

    private static void run(int seed) {
        Random by = new Random(seed);
        Both both = new Both();
        int size = 1 + by.nextInt(25);
        if (by.nextInt(10) > 0) {
            both.sheet(drawing(by, by.nextInt(by.nextBoolean() ? 8 : 25), size, 1 + by.nextInt(size)));
        }
        for (int i = 0; i < 150; i++) {
            int call = by.nextInt(Both.CALLS);
            int small = by.nextInt(3) == 0 ? size : 6;
            both.ask(call, argument(by, small), argument(by, small), argument(by, size), argument(by, size));
        }
        both.askAll();
        ended("run " + seed, both);
    }

    private static final String[] PIECES = {"sheet", "size", "join", "stroke", "home", "pace", ";", ";", "0", "1",
        "9", "10", "20", "21", "50", "51", "200", "201", "007", "0000", "x", "strokes", "A", "-1", "\t", "\0",
        "sheet size 20 join 1", "stroke 1 2 3 4", "home 1 1", "pace 2 3", "stroke 3 3 3 3", "\u00ff"};

    /** Texts right and wrong, cut at any place. */
    private static void text(int seed) {
        Random by = new Random(seed);
        Both both = new Both();
        for (int n = 0; n < 10; n++) {
            StringBuilder text = new StringBuilder(by.nextInt(5) > 0 ? "sheet size 20 join 1;" : "");
            int pieces = by.nextInt(12);
            for (int i = 0; i < pieces; i++) {
                text.append(PIECES[by.nextInt(PIECES.length)]);
                text.append(by.nextInt(3) == 0 ? "" : by.nextInt(3) == 0 ? ";" : " ");
            }
            both.feed(text.toString());
            both.sheet(by.nextInt(4) == 0 ? by.nextInt(text.length() + 22) : text.length());
            for (int what = 0; what <= 6; what++) {
                both.ask(0, what, 0, 0, 0);
            }
        }
        ended("text " + seed, both);
    }

    /** A right text with one sign changed, lost or more. */
    private static void misspelt(int seed) {
        Random by = new Random(seed);
        Both both = new Both();
        String right = drawing(by, by.nextInt(6), 20, 1);
        for (int n = 0; n < 20; n++) {
            StringBuilder text = new StringBuilder(right);
            int at = by.nextInt(text.length());
            char sign = " ;019azeksA/:`{".charAt(by.nextInt(15));
            switch (by.nextInt(3)) {
                case 0: text.setCharAt(at, sign); break;
                case 1: text.deleteCharAt(at); break;
                default: text.insert(at, sign);
            }
            both.sheet(text.toString());
            both.ask(0, by.nextInt(11), 0, 0, 0);
        }
        ended("misspelt " + seed, both);
    }

    public static void main(String[] args) {
        for (int seed = 0; seed < 150; seed++) {
            told(seed);
        }
        for (int seed = 0; seed < 60; seed++) {
            star(seed);
        }
        for (int seed = 0; seed < 400; seed++) {
            run(seed);
        }
        Both tangle = new Both();
        tangle.sheet(Due.TANGLE);
        tangle.askAll();
        tangle.ask(34, 0, 0, 0, 0);
        tangle.askAll();
        ended("tangle", tangle);
        extremes(null);
        extremes("sheet size 1 join 0");
        extremes(Due.SQUARE_AND_ARMS);
        for (int seed = 0; seed < 3000; seed++) {
            text(seed);
        }
        for (int seed = 0; seed < 1000; seed++) {
            misspelt(seed);
        }
        System.out.println(calls + " calls were answered by both, " + wrong + " runs differ");
        if (wrong != 0) {
            System.exit(1);
        }
    }
}
