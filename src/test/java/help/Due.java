import java.util.NoSuchElementException;

/** Counts the answers that are not as due, and tells them with the promise that they break. */
final class Due {
    static final int MIN = Integer.MIN_VALUE;
    static final int MAX = Integer.MAX_VALUE;

    /** A square at home, and a part with three arms, all near enough to join by 1. */
    static final String SQUARE_AND_ARMS = "sheet size 20 join 1;stroke 0 0 4 0;stroke 4 0 4 4;stroke 4 4 0 4;"
        + "stroke 0 4 0 0;stroke 10 0 14 0;stroke 14 0 14 6;stroke 14 0 18 0";

    /** Four arms of 10 from the middle: (0,0), (10,10), (10,0), (0,10) are the odd meetings 1 to 4. */
    static final String CROSS = "sheet size 10 join 0;stroke 5 5 0 0;stroke 5 5 10 10;stroke 5 5 10 0;stroke 5 5 0 10";

    /** Two triangles that meet at (4,0). */
    static final String TWO_RINGS = "sheet size 10 join 0;stroke 0 0 4 0;stroke 4 0 4 4;stroke 4 4 0 0;"
        + "stroke 4 0 8 0;stroke 8 0 8 4;stroke 8 4 4 0";

    /** So far from its best plan that BETTER ends by its 200 exchanges, 9 too early. */
    static final String TANGLE = "sheet size 200 join 0"
        + ";stroke 117 122 154 20;stroke 113 21 192 54;stroke 47 38 52 47;stroke 52 7 200 30"
        + ";stroke 109 176 107 182;stroke 54 0 30 41;stroke 138 171 193 66;stroke 55 25 164 137"
        + ";stroke 167 15 138 43;stroke 70 8 113 165;stroke 192 24 194 185;stroke 37 56 177 130"
        + ";stroke 71 167 200 159;stroke 36 50 97 174;stroke 103 106 148 15;stroke 180 138 67 138"
        + ";stroke 34 106 131 191;stroke 63 31 65 48;stroke 22 117 47 6;stroke 122 175 168 132"
        + ";stroke 29 111 8 60;stroke 191 122 194 19;stroke 44 156 14 70;stroke 61 178 51 135";

    private int promise = 0;
    private int asked = 0;
    private int wrong = 0;

    void promise(int number) {
        promise = number;
    }

    void is(String call, long got, long due) {
        asked++;
        if (got != due) {
            wrong++;
            System.out.println("promise " + promise + ": " + call + " answered " + got + ", due is " + due);
        }
    }

    /** An answer and the trouble behind it. */
    void is(String call, PenTrails x, long got, long due, int trouble) {
        is(call, got, due);
        is(call + ", trouble()", x.trouble(), trouble);
    }

    void row(String call, int[] got, int... due) {
        for (int i = 0; i < due.length; i++) {
            is(call + " " + i, got[i], due[i]);
        }
    }

    void throwsNone(String call, PenTrails x, int i) {
        boolean thrown = false;
        try {
            x.loose(i);
        } catch (NoSuchElementException e) {
            thrown = true;
        }
        is(call + " throws", thrown ? 1 : 0, 1);
    }

    void end() {
        System.out.println(asked + " answers, " + wrong + " not as due");
        if (wrong != 0) {
            System.exit(1);
        }
    }

    static int feed(PenTrails x, String text) {
        int[] five = new int[5];
        int has = x.size(0);
        for (int from = 0; from < text.length(); from += 20) {
            for (int i = 0; i < 20; i++) {
                int sign = from + i < text.length() ? text.charAt(from + i) : ' ';
                five[i / 4] = five[i / 4] << 8 | sign;
            }
            has = x.feed(five[0], five[1], five[2], five[3], five[4]);
        }
        return has;
    }

    static int sheet(PenTrails x, String text) {
        feed(x, text);
        return x.sheet(text.length());
    }

    static PenTrails drawn(String text) {
        PenTrails x = new PenTrails();
        if (sheet(x, text) < 0) {
            throw new IllegalStateException("fault " + x.fault() + " at " + x.where() + " of " + text);
        }
        return x;
    }

    static int[] walkOf(PenTrails x, int p) {
        int[] ways = new int[60];
        for (int k = 0; k < 60; k++) {
            ways[k] = x.walk(p, k);
        }
        return ways;
    }
}
