import java.util.NoSuchElementException;

/** Counts the answers that are not as due, and tells them with the words of the document that they break. */
final class Due {
    static final int MIN = Integer.MIN_VALUE;
    static final int MAX = Integer.MAX_VALUE;

    /** A square at home, and a part with three arms, all near enough to join by 1. */
    static final String SQUARE_AND_ARMS = "sheet size 20 join 1;stroke 0 0 4 0;stroke 4 0 4 4;stroke 4 4 0 4;"
        + "stroke 0 4 0 0;stroke 10 0 14 0;stroke 14 0 14 6;stroke 14 0 18 0";

    /** Four arms of 10 from the middle: (0,0), (10,10), (10,0), (0,10) are the odd meetings 1 to 4. */
    static final String CROSS = "sheet size 10 join 0;stroke 5 5 0 0;stroke 5 5 10 10;stroke 5 5 10 0;stroke 5 5 0 10";

    /** Two triangles that meet at (4,0). */
    static final String TWO_RINGS = "sheet size 10 join 0;stroke 0 0 4 0;stroke 4 0 4 4;stroke 4 4 0 0;"
        + "stroke 4 0 8 0;stroke 8 0 8 4;stroke 8 4 4 0";

    /** So far from its best plan that BETTER ends by its 200 exchanges, 9 too early. */
    static final String TANGLE = "sheet size 200 join 0"
        + ";stroke 117 122 154 20;stroke 113 21 192 54;stroke 47 38 52 47;stroke 52 7 200 30"
        + ";stroke 109 176 107 182;stroke 54 0 30 41;stroke 138 171 193 66;stroke 55 25 164 137"
        + ";stroke 167 15 138 43;stroke 70 8 113 165;stroke 192 24 194 185;stroke 37 56 177 130"
        + ";stroke 71 167 200 159;stroke 36 50 97 174;stroke 103 106 148 15;stroke 180 138 67 138"
        + ";stroke 34 106 131 191;stroke 63 31 65 48;stroke 22 117 47 6;stroke 122 175 168 132"
        + ";stroke 29 111 8 60;stroke 191 122 194 19;stroke 44 156 14 70;stroke 61 178 51 135";

    /** No text of a drawing has more strokes. */
    static final String FULL = "sheet size 20 join 0" + ";stroke 0 0 1 1".repeat(24);

    private String words = "";
    private int asked = 0;
    private int wrong = 0;

    void promise(int number) {
        words = "promise " + number;
    }

    /** The very words that are tested next: of a promise by its number, or of the terms by 0. QuotesTest reads these. */
    void says(int promise, String quote) {
        words = (promise == 0 ? "terms" : "promise " + promise) + " '" + quote + "'";
    }

    void is(String call, long got, long due) {
        asked++;
        if (got != due) {
            wrong++;
            System.out.println(words + ": " + call + " answered " + got + ", due is " + due);
        }
    }

    /** An answer and the trouble behind it. */
    void is(String call, PenTrails x, long got, long due, int trouble) {
        is(call, got, due);
        is(call + ", trouble()", x.trouble(), trouble);
    }

    void row(String call, int[] got, int... due) {
        for (int i = 0; i < due.length; i++) {
            is(call + " " + i, got[i], due[i]);
        }
    }

    /** What a call left as it was, told() ahead of it and behind it. */
    void same(String call, String ahead, String behind) {
        asked++;
        if (!ahead.equals(behind)) {
            wrong++;
            System.out.println(words + ": " + call + " made " + behind + " of " + ahead);
        }
    }

    void throwsNone(String call, PenTrails x, int i) {
        is(call + " throws", looseOf(x, i) == null ? 1 : 0, 1);
    }

    void end() {
        System.out.println(asked + " answers, " + wrong + " not as due");
        if (wrong != 0) {
            System.exit(1);
        }
    }

    static Integer looseOf(PenTrails x, int i) {
        try {
            return x.loose(i);
        } catch (NoSuchElementException e) {
            return null;
        }
    }

    static int feed(PenTrails x, String text) {
        int[] five = new int[5];
        int has = x.size(0);
        for (int from = 0; from < text.length(); from += 20) {
            for (int i = 0; i < 20; i++) {
                int sign = from + i < text.length() ? text.charAt(from + i) : ' ';
                five[i / 4] = five[i / 4] << 8 | sign;
            }
            has = x.feed(five[0], five[1], five[2], five[3], five[4]);
        }
        return has;
    }

    static int sheet(PenTrails x, String text) {
        feed(x, text);
        return x.sheet(text.length());
    }

    static PenTrails drawn(String text) {
        PenTrails x = new PenTrails();
        if (sheet(x, text) < 0) {
            throw new IllegalStateException("fault " + x.fault() + " at " + x.where() + " of " + text);
        }
        return x;
    }

    /** A drawing by its strokes, four numbers each. */
    static PenTrails drawn(int size, int join, int... points) {
        return drawn(text(size, join, points));
    }

    static String text(int size, int join, int... points) {
        StringBuilder text = new StringBuilder("sheet size ").append(size).append(" join ").append(join);
        for (int i = 0; i < points.length; i++) {
            text.append(i % 4 == 0 ? ";stroke " : " ").append(points[i]);
        }
        return text.toString();
    }

    static int[] walkOf(PenTrails x, int p) {
        int[] ways = new int[60];
        for (int k = 0; k < 60; k++) {
            ways[k] = x.walk(p, k);
        }
        return ways;
    }

    /** The plan as a text: by place the trail's place at first, with a - if it goes backwards. */
    static String planOf(PenTrails x) {
        StringBuilder plan = new StringBuilder();
        for (int i = 0; i < x.about(10); i++) {
            plan.append(i == 0 ? "" : " ").append(x.trail(i, 5) == 1 ? "-" : "").append(x.trail(i, 6));
        }
        return plan.toString();
    }

    /** All that an object tells of its drawing, its plan and what can be undone, but not of the tape. */
    static String told(PenTrails x) {
        StringBuilder all = new StringBuilder();
        for (int what = 0; what <= 10; what++) {
            all.append(' ').append(x.about(what));
        }
        for (int i = 0; i < 48; i++) {
            all.append('\n').append(i).append(':');
            for (int what = 0; what <= 6; what++) {
                all.append(' ').append(x.stroke(i, what)).append(' ').append(x.meeting(i, what)).append(' ').append(x.part(i, what));
                all.append(' ').append(x.pair(i, what)).append(' ').append(x.trail(i, what));
            }
            for (int k = 0; k < 48; k++) {
                all.append(' ').append(x.walk(i, k)).append(' ').append(x.ride(i, k)).append(' ').append(x.exchanged(i, k));
            }
            all.append(' ').append(x.rides(i)).append(' ').append(looseOf(x, i)).append(' ').append(x.enough(i % 24 + 1));
        }
        all.append('\n').append(x.travel()).append(' ').append(x.started()).append(' ').append(x.better(0));
        all.append(' ').append(x.better(1)).append(' ').append(x.floor()).append(' ').append(x.time());
        all.append(' ').append(x.longest()).append(' ').append(x.farthest()).append(' ').append(x.lifts());
        all.append(' ').append(x.worst()).append(' ').append(x.nearest()).append(' ').append(x.size(1)).append(' ').append(x.size(2));
        return all.toString();
    }
}
