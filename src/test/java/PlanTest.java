/** Promises 12 to 28: the plan, and what would be. */
public final class PlanTest {
    private static final Due due = new Due();
    private static final int[] OUTSIDE = {Due.MIN, -1, 3, 24, Due.MAX};

    private static void trails() {
        due.promise(12);
        PenTrails x = Due.drawn(Due.SQUARE_AND_ARMS);
        int[][] answers = {{0, 4, 0, 0, 16, 0, 0}, {1, 2, 6, 4, 10, 0, 1}, {1, 1, 5, 7, 4, 0, 2}};
        for (int i = 0; i < 3; i++) {
            for (int what = 0; what <= 6; what++) {
                due.is("trail(" + i + ", " + what + ")", x, x.trail(i, what), answers[i][what], 0);
            }
        }
        x.exchange(0, 1);
        int[][] then = {{1, 2, 4, 6, 10, 1, 1}, {0, 4, 0, 0, 16, 1, 0}, {1, 1, 5, 7, 4, 0, 2}};
        for (int i = 0; i < 3; i++) {
            for (int what = 0; what <= 6; what++) {
                due.is("trail(" + i + ", " + what + ") turned", x, x.trail(i, what), then[i][what], 0);
            }
        }
        for (int bad : OUTSIDE) {
            due.is("trail(" + bad + ", 0)", x, x.trail(bad, 0), -1, 1);
        }
        due.is("trail(0, 7)", x, x.trail(0, 7), -1, 1);
        due.is("trail(0, -1)", x, x.trail(0, -1), -1, 1);
    }

    private static void ridden() {
        due.promise(13);
        PenTrails x = Due.drawn(Due.CROSS);
        due.row("ride", new int[] {x.ride(0, 0), x.ride(0, 1), x.ride(1, 0), x.ride(1, 1)}, 1, 2, 7, 4);
        due.is("ride(0, 2)", x, x.ride(0, 2), -1, 1);
        due.is("ride(0, -1)", x, x.ride(0, -1), -1, 1);
        due.is("ride(0, MAX)", x, x.ride(0, Due.MAX), -1, 1);
        due.is("ride(2, 0)", x, x.ride(2, 0), -1, 1);
        due.is("ride(-1, 0)", x, x.ride(-1, 0), -1, 1);
        x.exchange(0, 1);
        due.row("ride turned", new int[] {x.ride(0, 0), x.ride(0, 1), x.ride(1, 0), x.ride(1, 1)}, 5, 6, 3, 0);
        due.is("trouble()", x.trouble(), 0);
        PenTrails self = Due.drawn("sheet size 9 join 4;stroke 1 1 3 3");
        due.is("ride(0, 0) of a stroke in one meeting", self.ride(0, 0), 0);
        self.exchange(0, 0);
        due.is("ride(0, 0) of it, turned", self.ride(0, 0), 1);
    }

    private static void travels() {
        due.promise(14);
        PenTrails x = Due.drawn(Due.SQUARE_AND_ARMS);
        due.is("travel()", x, x.travel(), 42, 0);
        x.exchange(1, 1);
        due.is("travel()", x, x.travel(), 34, 0);
        due.promise(15);
        due.is("started()", x, x.started(), 42, 0);
        x.home(18, 0);
        due.is("started() from another home", x.started(), 18 + 20 + 4);
        due.is("travel() from it", x.travel(), 18 + 10 + 6);
        PenTrails none = new PenTrails();
        due.is("started() without a drawing", none, none.started(), -1, 1);
        due.promise(14);
        due.is("travel() without a drawing", none, none.travel(), -1, 1);
        Due.sheet(none, "sheet size 9 join 0;home 5 5");
        due.is("travel() without trails", none, none.travel(), 0, 0);
        // The point of a meeting is that of its first end: (2, 0), also where end 2 is ridden from.
        PenTrails near = Due.drawn("sheet size 9 join 1;stroke 2 0 9 9;stroke 1 0 9 9");
        due.is("travel() of ends that are near", near.travel(), 4);
    }

    private static void betters() {
        due.promise(16);
        PenTrails x = Due.drawn(Due.SQUARE_AND_ARMS);
        due.is("better(0)", x, x.better(0), 34, 0);
        due.is("better(1)", x, x.better(1), 1, 0);
        due.is("travel() behind better()", x.travel(), 42);
        due.is("size(1) behind better()", x.size(1), 0);
        due.is("better(-1)", x, x.better(-1), -1, 1);
        due.is("better(2)", x, x.better(2), -1, 1);
        x.exchange(1, 1);
        due.is("better(0) of the best", x.better(0), 34);
        due.is("better(1) of the best", x.better(1), 0);
        PenTrails none = new PenTrails();
        due.is("better(0)", none, none.better(0), -1, 1);
        // On a line: first 20 to 10 is turned, then it stands, turned back, behind 2 to 12.
        PenTrails line = Due.drawn("sheet size 30 join 0;stroke 20 0 10 0;stroke 12 0 2 0;stroke 8 0 0 0");
        due.is("travel() on a line", line.travel(), 20 + 2 + 6 + 0);
        due.is("exchanged(0, 0)", line.exchanged(0, 0), 10 + 8 - 20 - 2);
        due.is("better(0)", line.better(0), 2 + 8 + 2 + 0);
        due.is("better(1)", line.better(1), 2);
        PenTrails tangle = Due.drawn(Due.TANGLE);
        due.is("better(1): no more than 200", tangle.better(1), 200);
        int first = tangle.better(0);
        due.is("improve()", tangle.improve(), first);
        due.is("better(1): the others", tangle.better(1), 9);
    }

    private static void exchangeds() {
        due.promise(17);
        PenTrails x = Due.drawn(Due.CROSS);
        due.is("exchanged(0, 0)", x, x.exchanged(0, 0), 20, 0);
        due.is("exchanged(1, 1)", x, x.exchanged(1, 1), 0, 0);
        due.is("exchanged(0, 1)", x, x.exchanged(0, 1), 0, 0);
        due.is("exchanged(1, 0)", x, x.exchanged(1, 0), Due.MIN, 1);
        due.is("exchanged(0, 2)", x, x.exchanged(0, 2), Due.MIN, 1);
        due.is("exchanged(-1, 0)", x, x.exchanged(-1, 0), Due.MIN, 1);
        due.is("travel() behind exchanged()", x.travel(), 20);
        PenTrails arms = Due.drawn(Due.SQUARE_AND_ARMS);
        due.is("exchanged(1, 1)", arms.exchanged(1, 1), -8);
        due.is("exchanged(0, 1)", arms.exchanged(0, 1), 20);
        due.is("exchanged(0, 0) without a drawing", new PenTrails().exchanged(0, 0), Due.MIN);
    }

    private static void floors() {
        due.promise(18);
        due.is("floor()", Due.drawn(Due.SQUARE_AND_ARMS).floor(), 14);
        PenTrails x = Due.drawn(Due.CROSS);
        due.is("floor()", x, x.floor(), 10, 0);
        x.home(5, 5);
        due.is("floor() from the middle", x.floor(), 20);
        x.exchange(0, 1);
        due.is("floor() of another plan", x.floor(), 20);
        // HOME 5 from the first, which is 3 from the third; the second is 4 from the third.
        PenTrails tree = Due.drawn("sheet size 50 join 0;stroke 5 0 5 9;stroke 19 9 19 0;stroke 8 0 15 0");
        due.is("floor() of three", tree.floor(), 5 + 3 + 4);
        PenTrails none = new PenTrails();
        due.is("floor()", none, none.floor(), -1, 1);
        Due.sheet(none, "sheet size 9 join 0;home 9 9");
        due.is("floor() without trails", none, none.floor(), 0, 0);
    }

    private static void times() {
        due.promise(19);
        PenTrails x = Due.drawn(Due.CROSS + ";pace 3 2");
        due.is("time()", x, x.time(), 3 * 40 + 2 * 20, 0);
        x.pace(9, 1);
        due.is("time()", x.time(), 9 * 40 + 20);
        PenTrails none = new PenTrails();
        due.is("time()", none, none.time(), -1, 1);
        Due.sheet(none, "sheet size 9 join 0;pace 9 9");
        due.is("time() without strokes", none, none.time(), 0, 0);
    }

    private static void pens() {
        due.promise(20);
        PenTrails x = Due.drawn(Due.CROSS + ";pace 2 3");
        int[][] at = {{0, 0, 1, 0}, {19, 0, 1, 0}, {20, 1, 1, 0}, {39, 1, 1, 0}, {40, 2, 0, 1}, {69, 2, 0, 1},
            {70, 2, 1, 1}, {89, 2, 1, 1}, {90, 3, 1, 1}, {109, 3, 1, 1}, {110, 4, 0, 2}, {140, 4, 0, 2},
            {99999, 4, 0, 2}};
        for (int[] row : at) {
            for (int what = 0; what <= 2; what++) {
                due.is("pen(" + row[0] + ", " + what + ")", x, x.pen(row[0], what), row[what + 1], 0);
            }
        }
        due.is("pen(-1, 0)", x, x.pen(-1, 0), -1, 2);
        due.is("pen(100000, 0)", x, x.pen(100000, 0), -1, 2);
        due.is("pen(MIN, 2)", x, x.pen(Due.MIN, 2), -1, 2);
        due.is("pen(-1, 3)", x, x.pen(-1, 3), -1, 1);
        due.is("pen(0, -1)", x, x.pen(0, -1), -1, 1);
        PenTrails none = new PenTrails();
        due.is("pen(-1, 0) without a drawing", none, none.pen(-1, 0), -1, 1);
        PenTrails away = Due.drawn("sheet size 9 join 0;stroke 3 0 5 0");
        due.is("pen(2, 1) on its way", away.pen(2, 1), 0);
        due.is("pen(3, 1) as it begins", away.pen(3, 1), 1);
        due.is("pen(5, 1) as it ends", away.pen(5, 1), 0);
        due.is("pen(5, 2) as it ends", away.pen(5, 2), 1);
    }

    private static void places() {
        PenTrails x = Due.drawn("sheet size 20 join 0;stroke 0 0 4 0;stroke 0 10 6 10;stroke 0 20 6 20");
        due.promise(21);
        due.is("longest(), of several the first", x, x.longest(), 1, 0);
        x.exchange(0, 1);
        due.is("longest() in another plan", x.longest(), 0);
        x.undo();
        due.promise(22);
        // 0, from (4, 0) to (0, 10) 14, from (6, 10) to (0, 20) 16, from (6, 20) home 26
        due.is("farthest()", x, x.farthest(), 3, 0);
        x.home(20, 20);
        // 40, 14, 16, 14
        due.is("farthest()", x.farthest(), 0);
        PenTrails cross = Due.drawn(Due.CROSS);
        due.is("farthest(), of several the first", cross.farthest(), 1);
        due.promise(23);
        due.is("lifts()", x, x.lifts(), 2, 0);
        due.is("lifts()", cross.lifts(), 1);
        due.is("lifts() of one trail", Due.drawn("sheet size 9 join 0;stroke 5 5 6 6").lifts(), 0);
        due.promise(24);
        due.is("rides(2)", x, x.rides(2), 2, 0);
        x.exchange(0, 2);
        due.row("rides(_)", new int[] {x.rides(0), x.rides(1), x.rides(2)}, 2, 1, 0);
        for (int bad : OUTSIDE) {
            due.is("rides(" + bad + ")", x, x.rides(bad), -1, 1);
        }
    }

    private static void placesOfNone() {
        PenTrails none = new PenTrails();
        for (int i = 0; i < 2; i++) {
            due.promise(21);
            due.is("longest()", none, none.longest(), i == 0 ? -1 : -2, 1 - i);
            due.promise(22);
            due.is("farthest()", none, none.farthest(), i == 0 ? -1 : -2, 1 - i);
            due.promise(23);
            due.is("lifts()", none, none.lifts(), i == 0 ? -1 : 0, 1 - i);
            due.promise(24);
            due.is("rides(0)", none, none.rides(0), -1, 1);
            due.promise(26);
            due.is("worst()", none, none.worst(), i == 0 ? -1 : -2, 1 - i);
            due.promise(27);
            due.is("nearest()", none, none.nearest(), i == 0 ? -1 : 0, 1 - i);
            due.promise(28);
            due.is("enough(1)", none, none.enough(1), i == 0 ? -1 : 0, 1 - i);
            due.is("enough(0)", none, none.enough(0), -1, 1 + i);
            Due.sheet(none, "sheet size 9 join 0;home 9 9");
        }
    }

    private static void woulds() {
        due.promise(25);
        PenTrails x = Due.drawn(Due.SQUARE_AND_ARMS);
        due.is("would(14, 6, 18, 0)", x, x.would(14, 6, 18, 0), -1, 0);
        due.is("would(20, 20, 19, 19)", x, x.would(20, 20, 19, 19), 1, 0);
        due.is("would(14, 6, 14, 8)", x, x.would(14, 6, 14, 8), 0, 0);
        due.is("about(2) behind would()", x.about(2), 7);
        due.is("size(1) behind would()", x.size(1), 0);
        int[][] bad = {{1, 1, 1, 1}, {-1, 0, 1, 1}, {0, 21, 1, 1}, {0, 0, 21, 1}, {0, 0, 1, -1}, {Due.MAX, 0, 0, Due.MIN}};
        for (int[] e : bad) {
            due.is("would() of no stroke", x, x.would(e[0], e[1], e[2], e[3]), Due.MIN, 2);
        }
        PenTrails full = Due.drawn("sheet size 20 join 1" + ";stroke 0 0 1 1".repeat(24));
        due.is("would() without room", full, full.would(0, 0, 1, 1), Due.MIN, 3);
        due.is("would() of no stroke without room", full, full.would(0, 0, 0, 0), Due.MIN, 2);
        PenTrails none = new PenTrails();
        due.is("would() without a drawing", none, none.would(0, 0, 0, 0), Due.MIN, 1);
    }

    private static void worsts() {
        due.promise(26);
        PenTrails x = Due.drawn(Due.SQUARE_AND_ARMS);
        // Without an arm, what is left of that part is one trail; 4 is the first arm.
        due.is("worst()", x, x.worst(), 4, 0);
        due.is("about(2) behind worst()", x.about(2), 7);
        due.is("worst() of several", Due.drawn(Due.TWO_RINGS).worst(), 0);
        due.is("worst() of one", Due.drawn("sheet size 9 join 0;stroke 5 5 6 6").worst(), 0);
        due.is("worst(): the last", Due.drawn("sheet size 9 join 0;stroke 0 0 1 0;stroke 1 0 1 1;stroke 1 1 0 0;"
            + "stroke 9 9 9 8").worst(), 3);
    }

    private static void nears() {
        PenTrails x = Due.drawn(Due.SQUARE_AND_ARMS);
        due.promise(27);
        due.is("nearest()", x, x.nearest(), 6, 0);
        due.is("about(1) behind nearest()", x.about(1), 1);
        PenTrails edge = Due.drawn("sheet size 200 join 0;stroke 0 0 100 0;stroke 150 0 200 0");
        due.is("nearest() of 50", edge.nearest(), 50);
        PenTrails beyond = Due.drawn("sheet size 200 join 7;stroke 0 0 100 0;stroke 151 0 102 0");
        due.is("nearest() with all too far but 2", beyond.nearest(), 2);
        due.promise(28);
        due.row("enough(_)", new int[] {x.enough(24), x.enough(3), x.enough(2), x.enough(1)}, 0, 0, 4, 6);
        due.is("enough(1) of 50", edge.enough(1), 50);
        PenTrails far = Due.drawn("sheet size 200 join 0;stroke 0 0 60 0;stroke 200 0 111 0");
        due.is("enough(1) of 51", far, far.enough(1), -2, 0);
        due.is("nearest() of 51", far.nearest(), 0);
        for (int bad : new int[] {Due.MIN, -1, 0, 25, Due.MAX}) {
            due.is("enough(" + bad + ")", x, x.enough(bad), -1, 2);
        }
    }

    public static void main(String[] args) {
        trails();
        ridden();
        travels();
        betters();
        exchangeds();
        floors();
        times();
        pens();
        places();
        placesOfNone();
        woulds();
        worsts();
        nears();
        due.end();
    }
}
