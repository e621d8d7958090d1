/** Trails, the plan and all that is told of it (terms II, promises 12 to 24): each sentence at its bounds. */
public final class PlanBoundsTest {
    private static final Due due = new Due();

    /** Trails on a line, each of one stroke: from 10 to 20, from 50 to 40, from 100 to 130; HOME at 0. */
    private static final int[] LINE = {10, 0, 20, 0, 50, 0, 40, 0, 100, 0, 130, 0};

    /** Five trails on a line, each of a length of its own. */
    private static final int[] FIVE = {10, 0, 11, 0, 20, 0, 22, 0, 30, 0, 33, 0, 40, 0, 44, 0, 50, 0, 55, 0};

    private static void cutAtHops() {
        due.says(0, "TRAILS: WALKS, cut at their HOPS.");
        // Arms from (50, 50); the walk is 9, 0, hop, 3, 4, hop, 7, 10.
        PenTrails x = Due.drawn(200, 0, 50, 50, 0, 0, 50, 50, 1, 0, 50, 50, 0, 100, 50, 50, 2, 100, 50, 50, 100, 100, 50, 50, 104, 100);
        due.is("about(10)", x.about(10), 3);
        due.row("rides", new int[] {x.ride(0, 0), x.ride(0, 1), x.ride(0, 2), x.ride(1, 0), x.ride(1, 1), x.ride(1, 2), x.ride(2, 0),
            x.ride(2, 1), x.ride(2, 2)}, 9, 0, -1, 3, 4, -1, 7, 10, -1);
        PenTrails whole = Due.drawn(Due.TWO_RINGS);
        due.row("a walk without hops", new int[] {whole.about(10), whole.trail(0, 1), whole.trail(0, 2), whole.trail(0, 3)}, 1, 6, 0, 0);
        PenTrails none = Due.drawn(9, 0);
        due.is("about(10) of none", none.about(10), 0);
        due.says(0, "PLAN: TRAILS in a row, each one forwards or backwards; at first PART by PART, as in WALKS, forwards.");
        due.same("a plan at first", "0 1 2", Due.planOf(x));
        // Stroke 2 is of the first part, but told behind the second.
        PenTrails two = Due.drawn(50, 0, 0, 0, 0, 10, 40, 0, 40, 10, 0, 0, 5, 0, 0, 0, 5, 1);
        due.row("parts", new int[] {two.trail(0, 0), two.trail(1, 0), two.trail(2, 0)}, 0, 0, 1);
        due.row("strokes", new int[] {two.ride(0, 0), two.ride(1, 0), two.ride(1, 1), two.ride(2, 0)}, 4, 7, 0, 2);
        two.exchange(0, 2);
        due.same("exchange(0, 2)", "-2 -1 -0", Due.planOf(two));
        two.exchange(1, 1);
        due.same("exchange(1, 1)", "-2 1 -0", Due.planOf(two));
    }

    private static void routes() {
        due.says(0, "ROUTE: from HOME to the first MEETING of the first TRAIL of the PLAN (the last one of it, backwards),"
            + " from its last one to the first one of the next TRAIL, and so on, from the last one HOME.");
        PenTrails x = Due.drawn(200, 0, LINE);
        due.is("travel()", x.travel(), 10 + 30 + 60 + 130);
        due.is("the first backwards", x.exchange(0, 0), 20 + 40 + 60 + 130);
        x.undo();
        due.is("the second backwards", x.exchange(1, 1), 10 + 20 + 50 + 130);
        x.undo();
        due.is("the last backwards", x.exchange(2, 2), 10 + 30 + 90 + 100);
        x.undo();
        due.is("all the other way", x.exchange(0, 2), 130 + 60 + 30 + 10);
        due.is("from another home", x.home(100, 3), 33 + 60 + 30 + 93);
        // The trail goes from end 2, but its meeting's point is that of end 0.
        due.is("travel() where ends are near", Due.drawn(9, 1, 2, 0, 9, 9, 1, 0, 9, 9).travel(), 2 + 2);
        due.says(0, "TRAVEL of the PLAN: of all of ROUTE. (0 without TRAILS.)");
        PenTrails one = Due.drawn(200, 0, 10, 0, 20, 0);
        due.is("travel() of one", one.travel(), 10 + 20);
        one.home(9, 9);
        due.is("travel() of one", one.travel(), 10 + 20);
        one.drop(0);
        due.is("travel() of none", one, one.travel(), 0, 0);
        due.is("home() of none", one, one.home(200, 200), 0, 0);
        PenTrails ring = Due.drawn(Due.TWO_RINGS);
        due.is("travel() of a ring at home", ring, ring.travel(), 0, 0);
    }

    private static void exchanges() {
        due.says(0, "To EXCHANGE a run of the PLAN, from place i to place k: its TRAILS stand in the other order, each turned.");
        String[][] then = {
            {"-0 1 2 3 4", "-1 -0 2 3 4", "-2 -1 -0 3 4", "-3 -2 -1 -0 4", "-4 -3 -2 -1 -0"},
            {null, "0 -1 2 3 4", "0 -2 -1 3 4", "0 -3 -2 -1 4", "0 -4 -3 -2 -1"},
            {null, null, "0 1 -2 3 4", "0 1 -3 -2 4", "0 1 -4 -3 -2"},
            {null, null, null, "0 1 2 -3 4", "0 1 2 -4 -3"},
            {null, null, null, null, "0 1 2 3 -4"}};
        PenTrails x = Due.drawn(200, 0, FIVE);
        for (int i = 0; i < 5; i++) {
            for (int k = i; k < 5; k++) {
                x.exchange(i, k);
                due.same("exchange(" + i + ", " + k + ")", then[i][k], Due.planOf(x));
                x.exchange(i, k);
                due.same("exchange(" + i + ", " + k + ") twice", "0 1 2 3 4", Due.planOf(x));
            }
        }
        x.exchange(1, 3);
        x.exchange(0, 2);
        due.same("one exchange behind another", "2 3 -0 -1 4", Due.planOf(x));
    }

    /** By what BETTER does first, as exchanged() tells it: i and k, or null. */
    private static int[] firstLess(PenTrails x) {
        for (int i = 0; i < x.about(10); i++) {
            for (int k = i; k < x.about(10); k++) {
                if (x.exchanged(i, k) < 0) {
                    return new int[] {i, k};
                }
            }
        }
        return null;
    }

    private static void betters() {
        due.says(0, "BETTER: the first EXCHANGE (by i, then by k, i no greater than k) by which TRAVEL is less is done, again and again,"
            + " till there is none, at most 200 times.");
        // Any other order of the exchanges ends in another plan; 2 is the least by which one can win.
        PenTrails x = Due.drawn(20, 0, 13, 0, 11, 1, 4, 0, 11, 0, 2, 0, 12, 0, 13, 2, 6, 0);
        due.is("travel()", x.travel(), 13 + 8 + 9 + 3 + 6);
        due.row("exchanged(0, _)", new int[] {x.exchanged(0, 0), x.exchanged(0, 1), x.exchanged(0, 2)}, 0, 0, -2);
        due.row("better(_)", new int[] {x.better(0), x.better(1)}, 19, 2);
        due.is("improve()", x.improve(), 19);
        due.same("improve()", "2 -1 -0 3", Due.planOf(x));
        // As much is not less.
        PenTrails even = Due.drawn(Due.CROSS);
        due.row("exchanged(_, _)", new int[] {even.exchanged(0, 0), even.exchanged(0, 1), even.exchanged(1, 1)}, 20, 0, 0);
        due.row("better(_)", new int[] {even.better(0), even.better(1)}, 20, 0);
        due.is("improve()", even, even.improve(), -1, 5);
        // A run of one trail is turned, too.
        PenTrails one = Due.drawn(20, 0, 1, 0, 10, 0, 4, 3, 11, 3);
        due.is("exchanged(1, 1)", one.exchanged(1, 1), (4 + 7) - (9 + 14));
        due.is("better(1)", one.better(1), 1);
        PenTrails single = Due.drawn(20, 0, 11, 0, 10, 0);
        due.row("one trail: the way is as far", new int[] {single.exchanged(0, 0), single.better(1)}, 0, 0);
        PenTrails none = Due.drawn(20, 0);
        due.row("no trail", new int[] {none.better(0), none.better(1)}, 0, 0);
    }

    /** Due.TANGLE wins by 209 exchanges: with so many done by hand, BETTER ends ahead of its 200, at them, or is cut. */
    private static void twoHundred() {
        int[][] rows = {{8, 200, 1}, {9, 200, 0}, {10, 199, 0}};
        for (int[] row : rows) {
            PenTrails x = Due.drawn(Due.TANGLE);
            for (int n = 0; n < row[0]; n++) {
                int[] run = firstLess(x);
                due.is("exchange()", x.exchange(run[0], run[1]) >= 0 ? 1 : 0, 1);
            }
            due.is("better(1) behind " + row[0] + " by hand", x.better(1), row[1]);
            int travel = x.better(0);
            due.is("improve() behind " + row[0] + " by hand", x, x.improve(), travel, 0);
            due.is("better(1) behind that", x.better(1), row[2]);
            if (row[2] == 0) {
                due.is("improve() once more", x, x.improve(), -1, 5);
                due.is("no exchange that wins", firstLess(x) == null ? 1 : 0, 1);
            } else {
                int[] run = firstLess(x);
                int won = x.exchanged(run[0], run[1]);
                due.is("improve() once more", x, x.improve(), travel + won, 0);
            }
        }
    }

    private static void floors() {
        due.says(0, "FLOOR: HOME and the TRAILS joined to one tree so that TRAVEL of its branches is least together, a branch between two"
            + " being the least TRAVEL from an end of the one (HOME itself) to an end of the other.");
        int[] homes = {0, 20, 30, 45};
        int[] floors = {10 + 5, 0 + 5, 5 + 5, 5 + 5};
        for (int turned = 0; turned < 4; turned++) {
            int[] a = turned % 2 == 0 ? new int[] {10, 0, 20, 0} : new int[] {20, 0, 10, 0};
            int[] b = turned / 2 == 0 ? new int[] {25, 0, 40, 0} : new int[] {40, 0, 25, 0};
            PenTrails x = Due.drawn(200, 0, a[0], a[1], a[2], a[3], b[0], b[1], b[2], b[3]);
            for (int i = 0; i < homes.length; i++) {
                x.home(homes[i], 0);
                due.is("floor() from " + homes[i] + ", turned " + turned, x, x.floor(), floors[i], 0);
            }
        }
        // All four branches go from HOME; any two trails are 2 apart.
        PenTrails cross = Due.drawn(100, 0, 51, 50, 100, 50, 50, 51, 50, 100, 49, 50, 0, 50, 50, 49, 50, 0);
        cross.home(50, 50);
        due.is("floor() of arms round home", cross.floor(), 4);
        // HOME is 5 from the first, that is 3 from the third, and that 4 from the second.
        PenTrails chain = Due.drawn(50, 0, 5, 0, 5, 9, 19, 9, 19, 0, 8, 0, 15, 0);
        due.is("floor() of a chain", chain.floor(), 5 + 3 + 4);
        PenTrails none = Due.drawn(50, 0);
        none.home(50, 50);
        due.is("floor() of none", none, none.floor(), 0, 0);
        PenTrails most = Due.drawn(200, 0);
        for (int i = 0; i < 24; i++) {
            most.add(8 * i, 0, 8 * i, 100);
        }
        due.is("floor() of 24", most, most.floor(), 23 * 8, 0);
        due.is("floor() of one", Due.drawn(50, 0, 9, 9, 3, 4).floor(), 7);
        due.says(0, "(Ends of a TRAIL: its first and last MEETING.)");
        due.is("floor() with the middle of a trail near home", Due.drawn(100, 0, 50, 0, 1, 1, 1, 1, 60, 0).floor(), 50);
        PenTrails ring = Due.drawn(20, 0, 10, 10, 0, 10, 0, 10, 0, 0, 0, 0, 10, 0, 10, 0, 10, 10);
        due.is("floor() of a ring that goes through home", ring.floor(), 20);
        due.is("travel() of it", ring.travel(), 40);
    }

    private static void trailsTold() {
        due.says(12, "Of the TRAIL at a place of the PLAN 0 its PART, 1 STROKES, 2 the MEETING where it begins, 3 ends, as it goes in the PLAN,"
            + " 4 LENGTH of its STROKES together, 5 1 if backwards, 0, 6 its place at first.");
        PenTrails x = Due.drawn(Due.SQUARE_AND_ARMS);
        int[][] ahead = {{0, 4, 0, 0, 16, 0, 0}, {1, 2, 6, 4, 10, 0, 1}, {1, 1, 5, 7, 4, 0, 2}};
        int[][] behind = {{0, 4, 0, 0, 16, 0, 0}, {1, 1, 7, 5, 4, 1, 2}, {1, 2, 4, 6, 10, 1, 1}};
        for (int turn = 0; turn < 2; turn++) {
            for (int i = 0; i < 3; i++) {
                for (int what = 0; what <= 6; what++) {
                    due.is("trail(" + i + ", " + what + ")", x, x.trail(i, what), turn == 0 ? ahead[i][what] : behind[i][what], 0);
                }
            }
            x.exchange(1, 2);
        }
        // The length is that of the strokes, not from meeting to meeting.
        due.is("trail(0, 4) of near ends", Due.drawn(50, 3, 0, 0, 10, 0, 12, 1, 20, 1).trail(0, 4), 18);
        due.says(12, "NONE: 1 (i, what).");
        for (int bad : new int[] {Due.MIN, -1, 3, 24, Due.MAX}) {
            due.is("trail(" + bad + ", 0)", x, x.trail(bad, 0), -1, 1);
        }
        for (int bad : new int[] {Due.MIN, -1, 7, Due.MAX}) {
            due.is("trail(0, " + bad + ")", x, x.trail(0, bad), -1, 1);
        }
        PenTrails no = new PenTrails();
        due.is("trail(0, 0) without a drawing", no, no.trail(0, 0), -1, 1);
        Due.sheet(no, "sheet size 9 join 0");
        due.is("trail(0, 0) without trails", no, no.trail(0, 0), -1, 1);
    }

    private static void rides() {
        due.says(13, "The k-th STROKE of it, as it goes in the PLAN: twice its number, and 1 if it is gone from its second END.");
        PenTrails x = Due.drawn(Due.SQUARE_AND_ARMS);
        due.row("ride(_, _)", new int[] {x.ride(0, 0), x.ride(0, 3), x.ride(1, 0), x.ride(1, 1), x.ride(2, 0)}, 0, 6, 11, 9, 12);
        x.exchange(0, 2);
        due.row("ride(_, _) turned", new int[] {x.ride(2, 0), x.ride(2, 1), x.ride(2, 2), x.ride(2, 3), x.ride(1, 0), x.ride(1, 1),
            x.ride(0, 0)}, 7, 5, 3, 1, 8, 10, 13);
        due.is("trouble()", x.trouble(), 0);
        PenTrails full = Due.drawn(Due.FULL);
        due.is("ride(0, 23) of 24", full, full.ride(0, 23), 47, 0);
        due.is("ride(0, 24) of 24", full, full.ride(0, 24), -1, 1);
        due.says(13, "NONE: 1 (i, k).");
        for (int bad : new int[] {Due.MIN, -1, 3, 24, Due.MAX}) {
            due.is("ride(" + bad + ", 0)", x, x.ride(bad, 0), -1, 1);
        }
        due.is("ride(1, 1)", x, x.ride(1, 1), 10, 0);
        for (int bad : new int[] {Due.MIN, -1, 2, 24, Due.MAX}) {
            due.is("ride(1, " + bad + ")", x, x.ride(1, bad), -1, 1);
        }
        due.is("ride(0, 0)", x, x.ride(0, 0), 13, 0);
        due.is("ride(0, 1)", x, x.ride(0, 1), -1, 1);
        PenTrails no = new PenTrails();
        due.is("ride(0, 0) without a drawing", no, no.ride(0, 0), -1, 1);
    }

    private static void travels() {
        due.says(14, "TRAVEL of the PLAN. NONE: 1.");
        PenTrails no = new PenTrails();
        due.is("travel() without a drawing", no, no.travel(), -1, 1);
        PenTrails x = Due.drawn(200, 0, LINE);
        due.is("travel()", x, x.travel(), 230, 0);
        x.exchange(1, 1);
        due.is("travel()", x, x.travel(), 210, 0);
        due.says(15, "That of the PLAN as at first. NONE: 1.");
        due.is("started() without a drawing", no, no.started(), -1, 1);
        due.is("started()", x, x.started(), 230, 0);
        x.home(200, 0);
        due.is("started() from another home", x.started(), 190 + 30 + 60 + 70);
        due.is("travel() from there", x.travel(), 190 + 20 + 50 + 70);
        due.same("started()", "0 -1 2", Due.planOf(x));
        due.is("started() without trails", Due.drawn(9, 0).started(), 0);
    }

    private static void bettersTold() {
        due.says(16, "BETTER, from the PLAN as it is: what 0 TRAVEL then, 1 how many EXCHANGES.");
        PenTrails x = Due.drawn(Due.SQUARE_AND_ARMS);
        String ahead = Due.told(x);
        due.is("better(0)", x, x.better(0), 34, 0);
        due.is("better(1)", x, x.better(1), 1, 0);
        due.same("better()", ahead, Due.told(x));
        x.exchange(1, 1);
        due.is("better(0) from the best", x, x.better(0), 34, 0);
        due.is("better(1) from the best", x, x.better(1), 0, 0);
        x.exchange(0, 2);
        due.is("better(1) from it the other way", x, x.better(1), 0, 0);
        due.says(16, "NONE: 1 (what, too).");
        for (int bad : new int[] {Due.MIN, -1, 2, Due.MAX}) {
            due.is("better(" + bad + ")", x, x.better(bad), -1, 1);
        }
        PenTrails no = new PenTrails();
        due.is("better(0) without a drawing", no, no.better(0), -1, 1);
        due.is("better(1) without a drawing", no, no.better(1), -1, 1);
    }

    private static void exchangedTold() {
        due.says(17, "By how much TRAVEL would be more by an EXCHANGE.");
        PenTrails x = Due.drawn(200, 0, LINE);
        int[][] more = {{(20 + 40) - (10 + 30), (40 + 90) - (10 + 60), 0}, {0, (20 + 50) - (30 + 60), (110 + 50) - (30 + 130)},
            {0, 0, (90 + 100) - (60 + 130)}};
        String ahead = Due.told(x);
        for (int i = 0; i < 3; i++) {
            for (int k = i; k < 3; k++) {
                due.is("exchanged(" + i + ", " + k + ")", x, x.exchanged(i, k), more[i][k], 0);
            }
        }
        due.same("exchanged()", ahead, Due.told(x));
        due.says(17, "Integer.MIN_VALUE: 1 (places; i above k).");
        for (int bad : new int[] {Due.MIN, -1, 3, 24, Due.MAX}) {
            due.is("exchanged(" + bad + ", 2)", x, x.exchanged(bad, 2), Due.MIN, 1);
            due.is("exchanged(0, " + bad + ")", x, x.exchanged(0, bad), Due.MIN, 1);
            due.is("exchanged(" + bad + ", " + bad + ")", x, x.exchanged(bad, bad), Due.MIN, 1);
        }
        due.is("exchanged(1, 0)", x, x.exchanged(1, 0), Due.MIN, 1);
        due.is("exchanged(2, 1)", x, x.exchanged(2, 1), Due.MIN, 1);
        due.is("exchanged(2, 2)", x, x.exchanged(2, 2), 0, 0);
        PenTrails no = new PenTrails();
        due.is("exchanged(0, 0) without a drawing", no, no.exchanged(0, 0), Due.MIN, 1);
        Due.sheet(no, "sheet size 9 join 0");
        due.is("exchanged(0, 0) without trails", no, no.exchanged(0, 0), Due.MIN, 1);
    }

    private static void floorsAndTimes() {
        due.says(18, "FLOOR. NONE: 1.");
        PenTrails no = new PenTrails();
        due.is("floor() without a drawing", no, no.floor(), -1, 1);
        PenTrails x = Due.drawn(200, 0, LINE);
        due.is("floor()", x, x.floor(), 10 + 20 + 50, 0);
        x.exchange(0, 2);
        due.is("floor() is none of the plan's", x, x.floor(), 80, 0);
        due.says(19, "DOWN times LENGTH of all STROKES and UP times TRAVEL of the PLAN. NONE: 1.");
        due.is("time() without a drawing", no, no.time(), -1, 1);
        due.is("time()", x, x.time(), 50 + 230, 0);
        due.is("pace(9, 1)", x.pace(9, 1), 450 + 230);
        due.is("pace(1, 9)", x.pace(1, 9), 50 + 2070);
        due.is("time()", x, x.time(), 2120, 0);
        x.exchange(1, 1);
        due.is("time() of another plan", x, x.time(), 50 + 9 * 210, 0);
        PenTrails none = Due.drawn("sheet size 9 join 0;home 9 9;pace 9 9");
        due.is("time() of none", none, none.time(), 0, 0);
    }

    /** 24 strokes from (0, i) to (200, 200 - i), 400 - 2 i long, and 399 - 2 i on to the next one. */
    private static PenTrails longOne() {
        PenTrails x = Due.drawn("sheet size 200 join 0;pace 9 9");
        for (int i = 0; i < 24; i++) {
            x.add(0, i, 200, 200 - i);
        }
        return x;
    }

    private static void pen(PenTrails x, int t, int strokes, int down, int trails) {
        due.is("pen(" + t + ", 0)", x, x.pen(t, 0), strokes, 0);
        due.is("pen(" + t + ", 1)", x, x.pen(t, 1), down, 0);
        due.is("pen(" + t + ", 2)", x, x.pen(t, 2), trails, 0);
    }

    private static void pens() {
        due.says(20, "Behind t (0 .. 99,999) of that time: 0 how many STROKES are through, 1 1 if the pen is down, 0"
            + " (as it begins a STROKE, it is down; as it ends one with which a TRAIL ends, up), 2 how many TRAILS are through.");
        // 3 home to (3, 0); two strokes to (5, 0) and (9, 0); 2 to (9, 2); one to (9, 3); and home.
        PenTrails x = Due.drawn("sheet size 9 join 0;stroke 3 0 5 0;stroke 5 0 9 0;stroke 9 2 9 3;pace 2 3");
        int[][] at = {{0, 0, 0, 0}, {8, 0, 0, 0}, {9, 0, 1, 0}, {12, 0, 1, 0}, {13, 1, 1, 0}, {20, 1, 1, 0}, {21, 2, 0, 1}, {26, 2, 0, 1},
            {27, 2, 1, 1}, {28, 2, 1, 1}, {29, 3, 0, 2}, {64, 3, 0, 2}, {65, 3, 0, 2}, {66, 3, 0, 2}, {99999, 3, 0, 2}};
        due.is("time()", x.time(), 65);
        for (int[] row : at) {
            pen(x, row[0], row[1], row[2], row[3]);
        }
        // From home itself the pen is down at once.
        PenTrails near = Due.drawn(9, 0, 0, 0, 1, 0);
        pen(near, 0, 0, 1, 0);
        pen(near, 1, 1, 0, 1);
        // From end to end within a meeting the pen goes in no time, and stays down.
        PenTrails gap = Due.drawn(50, 3, 0, 0, 10, 0, 12, 1, 20, 1);
        due.is("time() with a gap", gap.time(), 18 + 21);
        pen(gap, 9, 0, 1, 0);
        pen(gap, 10, 1, 1, 0);
        pen(gap, 17, 1, 1, 0);
        pen(gap, 18, 2, 0, 1);
        pen(Due.drawn(9, 0), 0, 0, 0, 0);
        pen(Due.drawn(9, 0), 99999, 0, 0, 0);
        PenTrails far = longOne();
        due.is("time() of a long one", far.time(), 9 * 9048 + 9 * 9048);
        pen(far, 97397, 14, 0, 14);
        pen(far, 97398, 14, 1, 14);
        pen(far, 99999, 14, 1, 14);
        due.says(20, "NONE: 1 (no DRAWING, what); 2.");
        for (int t : new int[] {Due.MIN, -1, 100000, Due.MAX}) {
            due.is("pen(" + t + ", 0)", far, far.pen(t, 0), -1, 2);
            due.is("pen(" + t + ", 2)", far, far.pen(t, 2), -1, 2);
            due.is("pen(" + t + ", 3)", far, far.pen(t, 3), -1, 1);
        }
        for (int what : new int[] {Due.MIN, -1, 3, Due.MAX}) {
            due.is("pen(0, " + what + ")", far, far.pen(0, what), -1, 1);
        }
        PenTrails no = new PenTrails();
        due.is("pen(0, 0) without a drawing", no, no.pen(0, 0), -1, 1);
        due.is("pen(-1, 0) without a drawing", no, no.pen(-1, 0), -1, 1);
    }

    private static void longestAndFarthest() {
        PenTrails no = new PenTrails();
        PenTrails none = Due.drawn("sheet size 9 join 0;home 9 9");
        due.says(21, "The place in the PLAN of the TRAIL with the greatest LENGTH, of several the first; -2 none. NONE: 1.");
        due.is("longest() without a drawing", no, no.longest(), -1, 1);
        due.is("longest() of none", none, none.longest(), -2, 0);
        due.is("longest() of one", Due.drawn(9, 0, 5, 5, 6, 6).longest(), 0);
        PenTrails x = Due.drawn(200, 0, 10, 0, 14, 0, 20, 0, 25, 0, 30, 0, 35, 0, 40, 0, 43, 0);
        due.is("longest() of several", x, x.longest(), 1, 0);
        x.exchange(2, 3);
        due.is("longest(), the other later", x, x.longest(), 1, 0);
        x.exchange(0, 1);
        due.is("longest() at the first place", x, x.longest(), 0, 0);
        PenTrails five = Due.drawn(200, 0, FIVE);
        due.is("longest() at the last place", five, five.longest(), 4, 0);
        // Strokes together, not the longest stroke.
        due.is("longest() of two strokes", Due.drawn(50, 0, 0, 0, 9, 0, 20, 0, 25, 0, 25, 0, 30, 0).longest(), 1);
        due.says(22, "The place behind which the pen goes farthest while it is up (0: from HOME to the first TRAIL; as many as there are TRAILS: HOME),"
            + " of several the first; -2 no TRAILS. NONE: 1.");
        due.is("farthest() without a drawing", no, no.farthest(), -1, 1);
        due.is("farthest() of none", none, none.farthest(), -2, 0);
        due.is("farthest() of a ring at home", Due.drawn(Due.TWO_RINGS).farthest(), 0);
        PenTrails line = Due.drawn(200, 0, LINE);
        due.is("farthest(): home", line, line.farthest(), 3, 0);
        due.is("farthest(): 1, 20, 1", Due.drawn(200, 0, 1, 0, 11, 0, 31, 0, 0, 1).farthest(), 1);
        line.home(130, 0);
        due.is("farthest(): from home, 120, 30, 60, 0", line, line.farthest(), 0, 0);
        line.home(70, 0);
        due.is("farthest(): 60, 30, 60, 60", line, line.farthest(), 0, 0);
        line.home(69, 0);
        due.is("farthest(): 59, 30, 60, 61", line, line.farthest(), 3, 0);
        line.home(70, 0);
        line.exchange(0, 0);
        due.is("farthest(): 50, 40, 60, 60", line, line.farthest(), 2, 0);
        line.exchange(1, 1);
        due.is("farthest(): 50, 30, 50, 60", line, line.farthest(), 3, 0);
        line.home(100, 0);
        due.is("farthest(): 80, 30, 50, 30", line, line.farthest(), 0, 0);
    }

    private static void liftsAndRides() {
        PenTrails no = new PenTrails();
        due.says(23, "How often the pen goes up and farther than 0 between two TRAILS of the PLAN that stand side by side. NONE: 1.");
        due.is("lifts() without a drawing", no, no.lifts(), -1, 1);
        due.is("lifts() of none", Due.drawn(9, 0).lifts(), 0);
        PenTrails one = Due.drawn(9, 0, 5, 5, 6, 6);
        due.is("lifts() of one", one, one.lifts(), 0, 0);
        PenTrails x = Due.drawn(200, 0, FIVE);
        due.is("lifts() of five", x, x.lifts(), 4, 0);
        due.is("lifts() of two 1 apart", Due.drawn(9, 0, 0, 0, 1, 0, 2, 0, 3, 0).lifts(), 1);
        due.is("lifts() of two that meet", Due.drawn(9, 1, 0, 0, 2, 0, 3, 0, 5, 0).lifts(), 0);
        due.says(24, "The place in the PLAN of the TRAIL that has a STROKE. NONE: 1 (no such STROKE).");
        x.exchange(1, 3);
        due.row("rides(_)", new int[] {x.rides(0), x.rides(1), x.rides(2), x.rides(3), x.rides(4)}, 0, 3, 2, 1, 4);
        due.is("trouble()", x.trouble(), 0);
        for (int bad : new int[] {Due.MIN, -1, 5, 24, Due.MAX}) {
            due.is("rides(" + bad + ")", x, x.rides(bad), -1, 1);
        }
        due.is("rides(0) without a drawing", no, no.rides(0), -1, 1);
        PenTrails full = Due.drawn(Due.FULL);
        due.is("rides(23)", full, full.rides(23), 0, 0);
        due.is("rides(24)", full, full.rides(24), -1, 1);
    }

    public static void main(String[] args) {
        cutAtHops();
        routes();
        exchanges();
        betters();
        twoHundred();
        floors();
        trailsTold();
        rides();
        travels();
        bettersTold();
        exchangedTold();
        floorsAndTimes();
        pens();
        longestAndFarthest();
        liftsAndRides();
        due.end();
    }
}
