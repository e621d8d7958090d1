/** What would be, acts, undone or not, and trouble (terms II and III, promises 25 to 39): each sentence at its bounds. */
public final class ActsBoundsTest {
    private static final Due due = new Due();
    private static final int[] LINE = {10, 0, 20, 0, 50, 0, 40, 0, 100, 0, 130, 0};

    /** Four strokes that come near to (50, 50) from four sides, each 2 from it and 4 from the others. */
    private static final int[] NEAR = {52, 50, 100, 50, 48, 50, 0, 50, 50, 52, 50, 100, 50, 48, 50, 0};

    private static int act(PenTrails x, int kind) {
        switch (kind) {
            case 0: return x.add(1, 1, 9, 9);
            case 1: return x.drop(1);
            case 2: return x.home(7, 8);
            case 3: return x.join(6);
            case 4: return x.pace(4, 5);
            case 5: return x.exchange(0, 1);
            default: return x.improve();
        }
    }

    private static void acts() {
        due.says(0, "ACTS: a STROKE comes, goes; HOME, JOIN, PACE; an EXCHANGE by hand, BETTER done.");
        for (int kind = 0; kind <= 6; kind++) {
            PenTrails x = Due.drawn(Due.SQUARE_AND_ARMS + ";home 1 2;pace 2 3");
            String ahead = Due.told(x);
            due.is("act " + kind, x, act(x, kind) >= 0 ? 1 : 0, 1, 0);
            due.is("size(1) behind act " + kind, x.size(1), 1);
            due.is("act " + kind + " changes something", Due.told(x).equals(ahead) ? 1 : 0, 0);
            due.is("undo() of act " + kind, x, x.undo() ? 1 : 0, 1, 0);
            due.same("undo() of act " + kind, ahead, Due.told(x));
        }
        // All else is none.
        PenTrails x = Due.drawn(Due.SQUARE_AND_ARMS);
        Due.told(x);
        x.would(1, 1, 9, 9);
        x.better(1);
        x.exchanged(0, 1);
        x.pen(5, 1);
        x.feed(1, 2, 3, 4, 5);
        due.is("size(1) behind what only tells", x.size(1), 0);
    }

    private static void asAtFirst() {
        due.says(0, "If a STROKE comes or goes, JOIN is another one, the PLAN is as at first.");
        String turned = "-2 -1 -0";
        for (int kind = 0; kind <= 8; kind++) {
            PenTrails x = Due.drawn(Due.SQUARE_AND_ARMS);
            x.exchange(0, 2);
            switch (kind) {
                // A stroke of no trail of its own; the last one; the same JOIN; one by which nothing else meets.
                case 0: x.add(0, 0, 4, 4); due.same("add()", "0 1 2", Due.planOf(x)); break;
                case 1: x.drop(6); due.same("drop()", "0 1", Due.planOf(x)); break;
                case 2: x.join(1); due.same("join(1)", turned, Due.planOf(x)); break;
                case 3: x.join(2); due.same("join(2)", "0 1 2", Due.planOf(x)); break;
                case 4: x.join(0); due.same("join(0)", "0 1 2", Due.planOf(x)); break;
                case 5: x.home(20, 20); due.same("home()", turned, Due.planOf(x)); break;
                case 6: x.pace(9, 9); due.same("pace()", turned, Due.planOf(x)); break;
                case 7: x.exchange(1, 1); due.same("exchange()", "-2 1 -0", Due.planOf(x)); break;
                default: x.improve(); due.same("improve()", "-2 1 -0", Due.planOf(x));
            }
        }
    }

    private static void undoKeepsTen() {
        due.says(0, "UNDO: the latest not undone yet (10 are kept), the PLAN as it was ahead of it.");
        for (int acts : new int[] {1, 9, 10, 11, 12, 19, 20, 21, 25}) {
            PenTrails x = Due.drawn("sheet size 200 join 0;home 100 100");
            for (int n = 1; n <= acts; n++) {
                due.is("home()", x, x.home(n, 2 * n), 0, 0);
                due.is("size(1) behind " + n, x.size(1), Math.min(n, 10));
            }
            int kept = Math.min(acts, 10);
            for (int n = 1; n <= kept; n++) {
                due.is("undo() " + n + " of " + acts, x, x.undo() ? 1 : 0, 1, 0);
                due.is("size(1)", x.size(1), kept - n);
                due.is("about(3) behind undo() " + n + " of " + acts, x.about(3), n == acts ? 100 : acts - n);
                due.is("about(4) behind undo() " + n + " of " + acts, x.about(4), n == acts ? 100 : 2 * (acts - n));
            }
            due.is("undo() of no more than " + kept, x, x.undo() ? 1 : 0, 0, 1);
            due.is("about(3)", x.about(3), acts > 10 ? acts - 10 : 100);
        }
        // An act behind an undo() takes the place of what was undone.
        PenTrails x = Due.drawn(200, 0, LINE);
        x.exchange(0, 0);
        x.exchange(1, 1);
        x.undo();
        x.exchange(2, 2);
        due.same("exchange() behind undo()", "-0 1 -2", Due.planOf(x));
        x.undo();
        due.same("undo()", "-0 1 2", Due.planOf(x));
        x.undo();
        due.same("undo()", "0 1 2", Due.planOf(x));
        due.is("undo() of nothing", x, x.undo() ? 1 : 0, 0, 1);
        // The plan comes back with strokes, join and trails.
        x.exchange(0, 2);
        x.exchange(1, 1);
        String ahead = Due.told(x);
        x.join(50);
        x.add(9, 9, 8, 8);
        x.drop(0);
        x.improve();
        due.is("size(1)", x.size(1), 5);
        x.undo();
        x.undo();
        x.undo();
        due.same("undo() of join(50), add(), drop()", ahead, Due.told(x));
    }

    private static void order() {
        due.says(0, "Refusals of a call are met in the order in which they are told; 1 is also told without a DRAWING.");
        PenTrails no = new PenTrails();
        due.is("pen(-1, 0)", no, no.pen(-1, 0), -1, 1);
        due.is("would(0, 0, 0, 0)", no, no.would(0, 0, 0, 0), Due.MIN, 1);
        due.is("would(-1, 0, 0, 0)", no, no.would(-1, 0, 0, 0), Due.MIN, 1);
        due.is("enough(0)", no, no.enough(0), -1, 1);
        due.is("enough(25)", no, no.enough(25), -1, 1);
        due.is("add(0, 0, 0, 0)", no, no.add(0, 0, 0, 0), -1, 1);
        due.is("add(-1, 0, 0, 0)", no, no.add(-1, 0, 0, 0), -1, 1);
        due.is("drop(-1)", no, no.drop(-1), -1, 1);
        due.is("home(-1, 0)", no, no.home(-1, 0), -1, 1);
        due.is("join(51)", no, no.join(51), -1, 1);
        due.is("pace(0, 10)", no, no.pace(0, 10), -1, 1);
        due.is("exchange(1, 0)", no, no.exchange(1, 0), -1, 1);
        due.is("improve()", no, no.improve(), -1, 1);
        due.is("undo()", no, no.undo() ? 1 : 0, 0, 1);
        due.is("sheet(1)", no, no.sheet(1), -1, 2);
        PenTrails full = Due.drawn(Due.FULL);
        due.is("would() of a dot without room", full, full.would(1, 1, 1, 1), Due.MIN, 2);
        due.is("would() beyond without room", full, full.would(0, 0, 0, 21), Due.MIN, 2);
        due.is("would() without room", full, full.would(0, 0, 0, 20), Due.MIN, 3);
        due.is("add() of a dot without room", full, full.add(1, 1, 1, 1), -1, 2);
        due.is("add() beyond without room", full, full.add(0, 0, 0, 21), -1, 2);
        due.is("add() without room", full, full.add(0, 0, 0, 20), -1, 3);
        due.is("pen(-1, 3)", full, full.pen(-1, 3), -1, 1);
        due.is("pen(-1, 2)", full, full.pen(-1, 2), -1, 2);
        due.is("exchange(1, 0), no place 1", full, full.exchange(1, 0), -1, 1);
        due.is("exchange(0, -1), no place -1", full, full.exchange(0, -1), -1, 1);
    }

    private static void setTrouble(PenTrails x, int trouble) {
        switch (trouble) {
            case 0: x.travel(); break;
            case 1: x.about(-1); break;
            case 2: x.join(-1); break;
            case 3: x.add(0, 0, 1, 1); break;
            case 4: x.sheet(0); break;
            default: x.improve();
        }
        due.is("trouble " + trouble, x.trouble(), trouble);
    }

    private static void troubles() {
        due.says(0, "III. TROUBLE of the latest call that may be refused (those of which a number is told here):"
            + " 0 it wasn't; 1 there is none such; 2 a number; 3 no room; 4 a FAULT; 5 not so.");
        PenTrails x = Due.drawn(Due.FULL);
        for (int trouble = 0; trouble <= 5; trouble++) {
            setTrouble(x, trouble);
            x.fault();
            x.where();
            x.size(0);
            x.size(9);
            x.size(-1);
            due.is("trouble() behind fault(), where(), size()", x.trouble(), trouble);
            due.throwsNone("loose(0)", x, 0);
            due.is("trouble() behind loose() that throws", x.trouble(), trouble);
            x.feed(1, 2, 3, 4, 5);
            due.is("trouble() behind feed()", x.trouble(), trouble);
            for (int n = 0; n < 35; n++) {
                x.feed(1, 2, 3, 4, 5);
            }
            due.is("trouble() behind feed() of too much", x.trouble(), trouble);
            x.sheet(0);
        }
        PenTrails loose = Due.drawn(Due.CROSS);
        for (int trouble : new int[] {0, 1, 2, 4, 5}) {
            setTrouble(loose, trouble);
            due.is("loose(0)", loose.loose(0), 1);
            due.is("trouble() behind loose()", loose.trouble(), trouble);
        }
        // Each call that isn't refused takes the trouble away.
        for (int call = 0; call < 32; call++) {
            PenTrails y = Due.drawn(Due.SQUARE_AND_ARMS);
            y.exchange(0, 0);
            y.join(-1);
            due.is("call " + call + " is not refused", rightCall(y, call) ? 1 : 0, 1);
            due.is("trouble() behind call " + call, y.trouble(), 0);
        }
    }

    private static boolean rightCall(PenTrails x, int call) {
        switch (call) {
            case 0: return x.about(0) != -1;
            case 1: return x.stroke(0, 0) != -1;
            case 2: return x.meeting(0, 0) != -1;
            case 3: return x.part(0, 0) != -1;
            case 4: return x.pair(0, 0) != -1;
            case 5: return x.walk(0, 0) != -1;
            case 6: return x.trail(0, 0) != -1;
            case 7: return x.ride(0, 0) != -1;
            case 8: return x.travel() != -1;
            case 9: return x.started() != -1;
            case 10: return x.better(0) != -1;
            case 11: return x.exchanged(0, 0) != Due.MIN;
            case 12: return x.floor() != -1;
            case 13: return x.time() != -1;
            case 14: return x.pen(0, 0) != -1;
            case 15: return x.longest() != -1;
            case 16: return x.farthest() != -1;
            case 17: return x.lifts() != -1;
            case 18: return x.rides(0) != -1;
            case 19: return x.would(0, 0, 1, 1) != Due.MIN;
            case 20: return x.worst() != -1;
            case 21: return x.nearest() != -1;
            case 22: return x.enough(1) != -1;
            case 23: return x.add(0, 0, 1, 1) != -1;
            case 24: return x.drop(0) != -1;
            case 25: return x.home(0, 0) != -1;
            case 26: return x.join(0) != -1;
            case 27: return x.pace(1, 1) != -1;
            case 28: return x.exchange(0, 0) != -1;
            case 29: return x.improve() != -1;
            case 30: return x.undo();
            default: return Due.sheet(x, "sheet size 1 join 0") == 0;
        }
    }

    private static void constants() {
        due.says(0, "The constants: `NONE = -1`: There is none; refused.");
        due.is("NONE", PenTrails.NONE, -1);
        due.says(0, "An object is used for at most 512 calls after it has been made; what later calls answer is free.");
        PenTrails x = new PenTrails();
        int calls = 0;
        String text = Due.text(20, 0, 1, 0, 2, 0, 3, 0, 4, 0, 5, 0, 6, 0);
        for (int from = 0; from < text.length(); from += 20) {
            x.size(0);
            calls += 2;
        }
        due.is("sheet()", Due.sheet(x, text), 3);
        calls += 2;
        while (calls < 511) {
            int n = calls % 21;
            due.is("home() as call " + (calls + 1), x.home(n, 0), Math.abs(n - 1) + 1 + 1 + Math.abs(6 - n));
            calls++;
        }
        due.is("the call 512", x.travel(), Math.abs(510 % 21 - 1) + 2 + Math.abs(6 - 510 % 21));
    }

    /** Each of the four numbers at its bounds and beyond: what is due there is told by whether all are within. */
    private static void points(boolean adds) {
        for (int i = 0; i < 4; i++) {
            for (int v : new int[] {Due.MIN, -1, 0, 1, 199, 200, 201, Due.MAX}) {
                PenTrails x = Due.drawn("sheet size 200 join 0");
                int[] e = {50, 60, 70, 80};
                e[i] = v;
                boolean within = v >= 0 && v <= 200;
                String call = (adds ? "add" : "would") + " with " + v + " as number " + i;
                int got = adds ? x.add(e[0], e[1], e[2], e[3]) : x.would(e[0], e[1], e[2], e[3]);
                due.is(call, x, got, within ? 1 : adds ? -1 : Due.MIN, within ? 0 : 2);
                due.is("about(2) behind " + call, x.about(2), adds && within ? 1 : 0);
            }
        }
        int[][] alike = {{50, 60, 50, 60, 2}, {50, 60, 50, 61, 0}, {50, 60, 51, 60, 0}, {50, 60, 60, 50, 0}, {0, 0, 0, 0, 2},
            {200, 200, 200, 200, 2}, {201, 201, 201, 201, 2}};
        for (int[] e : alike) {
            PenTrails x = Due.drawn("sheet size 200 join 0");
            int got = adds ? x.add(e[0], e[1], e[2], e[3]) : x.would(e[0], e[1], e[2], e[3]);
            due.is("a stroke alike or not", x, got, e[4] == 0 ? 1 : adds ? -1 : Due.MIN, e[4]);
        }
    }

    private static void woulds() {
        due.says(25, "By how many TRAILS there would be more, did a STROKE more come.");
        PenTrails x = Due.drawn(100, 2, NEAR);
        String ahead = Due.told(x);
        due.is("about(10)", x.about(10), 4);
        due.is("one that meets none", x, x.would(10, 10, 20, 20), 1, 0);
        due.is("one that goes on", x, x.would(100, 50, 100, 100), 0, 0);
        due.is("one from one to another", x, x.would(52, 50, 48, 50), -1, 0);
        due.is("one that makes all meet, and ends elsewhere", x, x.would(50, 50, 10, 10), -1, 0);
        due.is("one that makes all meet, and ends there", x, x.would(50, 50, 50, 51), -2, 0);
        due.same("would()", ahead, Due.told(x));
        // What would be is what is, if the stroke comes.
        for (int n = 0; n < 60; n++) {
            int[] e = {n * 7 % 101, n * 31 % 101, n * 13 % 101 + (n % 5 == 0 ? 0 : -n % 3), n * 53 % 101};
            e[2] = Math.max(0, e[2]);
            int more = x.would(e[0], e[1], e[2], e[3]);
            if (more != Due.MIN) {
                int trails = x.about(10);
                x.add(e[0], e[1], e[2], e[3]);
                due.is("would() of " + n, more, x.about(10) - trails);
                x.undo();
            }
        }
        due.says(25, "Integer.MIN_VALUE: 1 (no DRAWING); 2 (a POINT; alike); 3.");
        PenTrails no = new PenTrails();
        due.is("would() without a drawing", no, no.would(0, 0, 1, 1), Due.MIN, 1);
        points(false);
        PenTrails full = Due.drawn("sheet size 20 join 0" + ";stroke 0 0 1 1".repeat(23));
        due.is("would() with 23", full, full.would(0, 0, 1, 1), 0, 0);
        full.add(0, 0, 1, 1);
        due.is("would() with 24", full, full.would(0, 0, 1, 1), Due.MIN, 3);
        full.drop(5);
        due.is("would() with 23 again", full, full.would(0, 0, 1, 1), 0, 0);
    }

    private static void worsts() {
        due.says(26, "The STROKE without which there would be fewest TRAILS, of several the first; -2 none. NONE: 1 (no DRAWING).");
        PenTrails no = new PenTrails();
        due.is("worst() without a drawing", no, no.worst(), -1, 1);
        PenTrails x = Due.drawn(9, 0);
        due.is("worst() of none", x, x.worst(), -2, 0);
        x.add(5, 5, 6, 6);
        due.is("worst() of one", x, x.worst(), 0, 0);
        x.add(0, 0, 1, 1);
        due.is("worst() of two alike", x, x.worst(), 0, 0);
        // A triangle alone is one trail, and without one of its strokes it still is.
        PenTrails last = Due.drawn(9, 0, 0, 0, 1, 0, 1, 0, 1, 1, 1, 1, 0, 0, 9, 9, 9, 8);
        String ahead = Due.told(last);
        due.is("worst(): the last one", last, last.worst(), 3, 0);
        due.same("worst()", ahead, Due.told(last));
        due.is("worst(): the middle one", Due.drawn(9, 0, 0, 0, 1, 0, 9, 9, 9, 8, 1, 0, 1, 1, 1, 1, 0, 0).worst(), 1);
        // Without stroke 4, which links the ends of all the others, there would be more; without one of those fewer.
        PenTrails linked = Due.drawn(100, 2, NEAR);
        linked.add(50, 50, 50, 51);
        due.is("about(10)", linked.about(10), 2);
        due.is("worst() of linked ones", linked.worst(), 0);
        // What would be is what is, if the stroke goes.
        PenTrails some = Due.drawn(Due.SQUARE_AND_ARMS);
        int worst = some.worst();
        int fewest = 99;
        int first = -2;
        for (int s = 0; s < 7; s++) {
            some.drop(s);
            if (some.about(10) < fewest) {
                fewest = some.about(10);
                first = s;
            }
            some.undo();
        }
        due.is("worst() by dropping each", worst, first);
    }

    private static void nears() {
        due.says(27, "The least JOIN (0 .. 50) by which there are fewest TRAILS. NONE: 1 (no DRAWING).");
        PenTrails no = new PenTrails();
        due.is("nearest() without a drawing", no, no.nearest(), -1, 1);
        PenTrails none = Due.drawn(9, 9);
        due.is("nearest() of none", none, none.nearest(), 0, 0);
        due.is("nearest() of one", Due.drawn(9, 9, 0, 0, 5, 5).nearest(), 0);
        due.says(28, "The least JOIN (0 .. 50) by which there are no more than n TRAILS (1 .. 24); -2 there is none.");
        for (int gap = 1; gap <= 52; gap++) {
            for (int join : new int[] {0, 1, 50}) {
                PenTrails x = Due.drawn(200, join, 0, 0, 60, 0, 60 + gap, 0, 200, 0);
                String ahead = Due.told(x);
                due.says(27, "The least JOIN (0 .. 50) by which there are fewest TRAILS. NONE: 1 (no DRAWING).");
                due.is("nearest() of " + gap, x, x.nearest(), gap <= 50 ? gap : 0, 0);
                due.says(28, "The least JOIN (0 .. 50) by which there are no more than n TRAILS (1 .. 24); -2 there is none.");
                due.is("enough(1) of " + gap, x, x.enough(1), gap <= 50 ? gap : -2, 0);
                due.is("enough(2) of " + gap, x, x.enough(2), 0, 0);
                due.is("enough(24) of " + gap, x, x.enough(24), 0, 0);
                due.same("nearest() and enough()", ahead, Due.told(x));
            }
        }
        due.is("enough(1) of none", none, none.enough(1), 0, 0);
        // Gaps of 1, 2 and 3 between four.
        PenTrails four = Due.drawn(200, 0, 0, 0, 60, 0, 61, 0, 100, 0, 102, 0, 150, 0, 153, 0, 200, 0);
        due.row("enough(_)", new int[] {four.enough(1), four.enough(2), four.enough(3), four.enough(4), four.enough(5), four.nearest()}, 3, 2, 1, 0, 0, 3);
        PenTrails most = Due.drawn(200, 0);
        for (int i = 0; i < 24; i++) {
            most.add(8 * i, 0, 8 * i, 100);
        }
        due.row("enough(_) of 24", new int[] {most.enough(24), most.enough(23), most.enough(1)}, 0, 8, 8);
        due.says(28, "NONE: 1 (no DRAWING); 2.");
        due.is("enough(1) without a drawing", no, no.enough(1), -1, 1);
        for (int bad : new int[] {Due.MIN, -1, 0, 25, Due.MAX}) {
            due.is("enough(" + bad + ")", four, four.enough(bad), -1, 2);
        }
        due.is("enough(1)", four, four.enough(1), 3, 0);
        due.is("enough(24)", four, four.enough(24), 0, 0);
    }

    /** A call that is refused leaves all as it was, and is no act. */
    private static void refused(String call, PenTrails x, String ahead, int got, int trouble) {
        due.is(call, x, got, -1, trouble);
        due.same(call, ahead, Due.told(x));
    }

    private static void adds() {
        due.says(29, "A STROKE comes (the last one): how many there are.");
        PenTrails x = Due.drawn(20, 0);
        for (int s = 0; s < 24; s++) {
            due.is("add() with " + s, x, x.add(s % 21, 0, s % 21, 20 - s / 21), s + 1, 0);
            due.row("stroke(" + s + ", _)", new int[] {x.stroke(s, 0), x.stroke(s, 1), x.stroke(s, 2), x.stroke(s, 3)}, s % 21, 0, s % 21,
                20 - s / 21);
            due.is("stroke(0, 3)", x.stroke(0, 3), 20);
        }
        due.says(29, "NONE: 1 (no DRAWING); 2 (a POINT; alike); 3.");
        refused("add() as 25", x, Due.told(x), x.add(0, 0, 4, 0), 3);
        PenTrails no = new PenTrails();
        due.is("add() without a drawing", no, no.add(0, 0, 1, 1), -1, 1);
        points(true);
        PenTrails y = Due.drawn(Due.SQUARE_AND_ARMS);
        y.exchange(0, 1);
        String ahead = Due.told(y);
        refused("add() beyond", y, ahead, y.add(0, 0, 21, 0), 2);
        refused("add() of a dot", y, ahead, y.add(3, 3, 3, 3), 2);
    }

    private static void drops() {
        due.says(30, "A STROKE goes (those behind it are one less): how many there are.");
        for (int s = 0; s < 4; s++) {
            PenTrails x = Due.drawn(50, 0, 0, 1, 2, 3, 10, 11, 12, 13, 20, 21, 22, 23, 30, 31, 32, 33);
            due.is("drop(" + s + ")", x, x.drop(s), 3, 0);
            for (int t = 0; t < 3; t++) {
                int was = t < s ? t : t + 1;
                due.row("stroke(" + t + ", _)", new int[] {x.stroke(t, 0), x.stroke(t, 1), x.stroke(t, 2), x.stroke(t, 3)}, 10 * was, 10 * was + 1,
                    10 * was + 2, 10 * was + 3);
            }
            due.is("stroke(3, 0)", x, x.stroke(3, 0), -1, 1);
        }
        PenTrails one = Due.drawn(50, 0, 0, 1, 2, 3);
        due.is("drop(0) of one", one, one.drop(0), 0, 0);
        due.row("what is left", new int[] {one.about(2), one.about(7), one.about(8), one.about(9), one.about(10), one.size(2)}, 0, 0, 0, 0, 0, 0);
        due.says(30, "NONE: 1.");
        due.is("drop(0) of none", one, one.drop(0), -1, 1);
        PenTrails full = Due.drawn(Due.FULL);
        due.is("drop(24) of 24", full, full.drop(24), -1, 1);
        due.is("drop(23) of 24", full, full.drop(23), 23, 0);
        due.is("drop(23) of 23", full, full.drop(23), -1, 1);
        PenTrails x = Due.drawn(Due.SQUARE_AND_ARMS);
        x.exchange(0, 1);
        String ahead = Due.told(x);
        for (int bad : new int[] {Due.MIN, -1, 7, 24, Due.MAX}) {
            refused("drop(" + bad + ")", x, ahead, x.drop(bad), 1);
        }
        PenTrails no = new PenTrails();
        due.is("drop(0) without a drawing", no, no.drop(0), -1, 1);
    }

    private static void homes() {
        due.says(31, "HOME: TRAVEL of the PLAN then.");
        PenTrails x = Due.drawn(200, 0, LINE);
        due.is("home(0, 0): the same", x, x.home(0, 0), 10 + 30 + 60 + 130, 0);
        due.is("home(200, 200)", x, x.home(200, 200), 390 + 30 + 60 + 270, 0);
        due.is("home(200, 0)", x, x.home(200, 0), 190 + 30 + 60 + 70, 0);
        due.is("home(0, 200)", x, x.home(0, 200), 210 + 30 + 60 + 330, 0);
        due.row("HOME", new int[] {x.about(3), x.about(4)}, 0, 200);
        due.is("size(1)", x.size(1), 4);
        due.says(31, "NONE: 1 (no DRAWING); 2.");
        String ahead = Due.told(x);
        for (int bad : new int[] {Due.MIN, -1, 201, Due.MAX}) {
            refused("home(" + bad + ", 5)", x, ahead, x.home(bad, 5), 2);
            refused("home(5, " + bad + ")", x, ahead, x.home(5, bad), 2);
        }
        PenTrails no = new PenTrails();
        due.is("home(0, 0) without a drawing", no, no.home(0, 0), -1, 1);
        PenTrails small = Due.drawn(1, 0, 0, 0, 1, 1);
        due.is("home(1, 1) of size 1", small, small.home(1, 1), 2, 0);
        due.is("home(2, 1) of size 1", small, small.home(2, 1), -1, 2);
    }

    private static void joins() {
        due.says(32, "JOIN (0 .. 50; the same, too): how many TRAILS there are then.");
        PenTrails x = Due.drawn(200, 7, 0, 0, 60, 0, 110, 0, 200, 0);
        due.is("join(7): the same", x, x.join(7), 2, 0);
        due.is("size(1) behind it", x.size(1), 1);
        due.is("join(0)", x, x.join(0), 2, 0);
        due.is("join(49)", x, x.join(49), 2, 0);
        due.is("join(50)", x, x.join(50), 1, 0);
        due.is("about(1)", x.about(1), 50);
        due.is("join(50): the same", x, x.join(50), 1, 0);
        due.is("size(1)", x.size(1), 5);
        due.is("undo()", x, x.undo() ? 1 : 0, 1, 0);
        due.row("about(_)", new int[] {x.about(1), x.about(10)}, 50, 1);
        due.is("undo()", x, x.undo() ? 1 : 0, 1, 0);
        due.row("about(_)", new int[] {x.about(1), x.about(10)}, 49, 2);
        due.is("join(5) of none", Due.drawn(9, 0).join(5), 0);
        due.says(32, "NONE: 1 (no DRAWING); 2.");
        String ahead = Due.told(x);
        for (int bad : new int[] {Due.MIN, -1, 51, Due.MAX}) {
            refused("join(" + bad + ")", x, ahead, x.join(bad), 2);
        }
        PenTrails no = new PenTrails();
        due.is("join(0) without a drawing", no, no.join(0), -1, 1);
    }

    private static void paces() {
        due.says(33, "DOWN, UP (1 .. 9): time() then.");
        PenTrails x = Due.drawn(200, 0, LINE);
        due.is("pace(1, 1): the same", x, x.pace(1, 1), 50 + 230, 0);
        due.is("pace(9, 1)", x, x.pace(9, 1), 450 + 230, 0);
        due.is("pace(1, 9)", x, x.pace(1, 9), 50 + 2070, 0);
        due.is("pace(9, 9)", x, x.pace(9, 9), 450 + 2070, 0);
        due.is("pace(2, 3)", x, x.pace(2, 3), 100 + 690, 0);
        due.row("PACE", new int[] {x.about(5), x.about(6), x.time(), x.size(1)}, 2, 3, 790, 5);
        due.says(33, "NONE: 1 (no DRAWING); 2.");
        String ahead = Due.told(x);
        for (int bad : new int[] {Due.MIN, -1, 0, 10, Due.MAX}) {
            refused("pace(" + bad + ", 5)", x, ahead, x.pace(bad, 5), 2);
            refused("pace(5, " + bad + ")", x, ahead, x.pace(5, bad), 2);
        }
        PenTrails no = new PenTrails();
        due.is("pace(1, 1) without a drawing", no, no.pace(1, 1), -1, 1);
    }

    private static void exchanges() {
        due.says(34, "An EXCHANGE: TRAVEL then.");
        PenTrails x = Due.drawn(200, 0, LINE);
        due.is("exchange(0, 0)", x, x.exchange(0, 0), 20 + 40 + 60 + 130, 0);
        due.is("exchange(2, 2)", x, x.exchange(2, 2), 20 + 40 + 90 + 100, 0);
        due.is("exchange(0, 2)", x, x.exchange(0, 2), 250, 0);
        due.is("exchange(1, 2)", x, x.exchange(1, 2), 100 + 110 + 40 + 40, 0);
        due.same("exchanges", "2 -0 1", Due.planOf(x));
        due.is("size(1)", x.size(1), 4);
        due.says(34, "NONE: 1 (places); 2 (i above k).");
        String ahead = Due.told(x);
        for (int bad : new int[] {Due.MIN, -1, 3, 24, Due.MAX}) {
            refused("exchange(" + bad + ", 1)", x, ahead, x.exchange(bad, 1), 1);
            refused("exchange(1, " + bad + ")", x, ahead, x.exchange(1, bad), 1);
            refused("exchange(" + bad + ", " + bad + ")", x, ahead, x.exchange(bad, bad), 1);
        }
        refused("exchange(1, 0)", x, ahead, x.exchange(1, 0), 2);
        refused("exchange(2, 1)", x, ahead, x.exchange(2, 1), 2);
        refused("exchange(2, 0)", x, ahead, x.exchange(2, 0), 2);
        refused("exchange(3, 0)", x, ahead, x.exchange(3, 0), 1);
        refused("exchange(2, -1)", x, ahead, x.exchange(2, -1), 1);
        PenTrails no = new PenTrails();
        due.is("exchange(0, 0) without a drawing", no, no.exchange(0, 0), -1, 1);
        Due.sheet(no, "sheet size 9 join 0");
        due.is("exchange(0, 0) without trails", no, no.exchange(0, 0), -1, 1);
    }

    private static void improves() {
        due.says(35, "BETTER is done: TRAVEL then.");
        PenTrails x = Due.drawn(20, 0, 13, 0, 11, 1, 4, 0, 11, 0, 2, 0, 12, 0, 13, 2, 6, 0);
        String ahead = Due.told(x);
        due.is("improve()", x, x.improve(), 19, 0);
        due.is("size(1): both exchanges are one act", x.size(1), 1);
        due.same("improve()", "2 -1 -0 3", Due.planOf(x));
        due.says(35, "NONE: 1 (no DRAWING); 5 (there is no EXCHANGE).");
        String then = Due.told(x);
        refused("improve() once more", x, then, x.improve(), 5);
        due.is("undo()", x, x.undo() ? 1 : 0, 1, 0);
        due.same("undo() of improve()", ahead, Due.told(x));
        PenTrails no = new PenTrails();
        due.is("improve() without a drawing", no, no.improve(), -1, 1);
        Due.sheet(no, "sheet size 9 join 0");
        due.is("improve() without trails", no, no.improve(), -1, 5);
        PenTrails one = Due.drawn(9, 0, 5, 5, 6, 6);
        due.is("improve() of one", one, one.improve(), -1, 5);
        due.is("size(1)", one.size(1), 0);
    }

    private static void undos() {
        due.says(36, "UNDO: true; false: 1 (there is nothing).");
        PenTrails x = new PenTrails();
        due.is("undo() without a drawing", x, x.undo() ? 1 : 0, 0, 1);
        Due.sheet(x, Due.CROSS);
        due.is("undo() of a drawing", x, x.undo() ? 1 : 0, 0, 1);
        x.add(0, 0, 1, 1);
        due.is("undo()", x, x.undo() ? 1 : 0, 1, 0);
        due.is("undo() once more", x, x.undo() ? 1 : 0, 0, 1);
        due.same("undo()", Due.told(Due.drawn(Due.CROSS)), Due.told(x));
        x.home(1, 1);
        x.home(99, 99);
        x.join(51);
        x.exchange(1, 0);
        x.drop(9);
        x.pace(0, 0);
        due.is("undo() behind refusals", x, x.undo() ? 1 : 0, 1, 0);
        due.row("HOME", new int[] {x.about(3), x.about(4), x.size(1)}, 0, 0, 0);
        x.home(1, 1);
        Due.sheet(x, Due.CROSS);
        due.is("undo() behind sheet()", x, x.undo() ? 1 : 0, 0, 1);
    }

    private static void looses() {
        due.says(37, "The i-th MEETING, by numbers, in which there is one END alone.");
        PenTrails x = Due.drawn(Due.SQUARE_AND_ARMS);
        // Meeting 5 has three ends, those of the square two.
        due.row("loose(_)", new int[] {x.loose(0), x.loose(1), x.loose(2)}, 4, 6, 7);
        PenTrails most = Due.drawn(200, 0);
        for (int i = 0; i < 24; i++) {
            most.add(8 * i, 0, 8 * i, 100);
        }
        for (int m = 0; m < 48; m++) {
            due.is("loose(" + m + ")", most.loose(m), m);
        }
        // A stroke with both ends in one meeting has none.
        PenTrails self = Due.drawn(9, 2, 0, 0, 1, 1);
        due.throwsNone("loose(0) of both ends in one", self, 0);
        self.join(1);
        due.row("loose(_) of both ends alone", new int[] {self.loose(0), self.loose(1)}, 0, 1);
        due.says(37, "NoSuchElementException if there is none such.");
        due.throwsNone("loose(48) of 48", most, 48);
        for (int bad : new int[] {Due.MIN, -1, 3, 8, Due.MAX}) {
            due.throwsNone("loose(" + bad + ")", x, bad);
        }
        due.throwsNone("loose(0) of rings", Due.drawn(Due.TWO_RINGS), 0);
        due.throwsNone("loose(0) of none", Due.drawn(9, 0), 0);
        due.throwsNone("loose(0) without a drawing", new PenTrails(), 0);
        due.throwsNone("loose(-1) without a drawing", new PenTrails(), -1);
    }

    private static void sizes() {
        due.says(38, "0 bytes of THE TAPE, 1 what can be undone, 2 PAIRS.");
        PenTrails x = Due.drawn(Due.SQUARE_AND_ARMS);
        due.row("size(_)", new int[] {x.size(0), x.size(1), x.size(2)}, 0, 0, 2);
        x.feed(0, 0, 0, 0, 0);
        x.home(1, 1);
        x.drop(6);
        due.row("size(_)", new int[] {x.size(0), x.size(1), x.size(2)}, 20, 2, 1);
        x.undo();
        due.row("size(_)", new int[] {x.size(0), x.size(1), x.size(2)}, 20, 1, 2);
        due.says(38, "NONE for others; 0 for what there isn't.");
        for (int bad : new int[] {Due.MIN, -1, 3, Due.MAX}) {
            due.is("size(" + bad + ")", x.size(bad), -1);
        }
        PenTrails no = new PenTrails();
        due.row("size(_) without a drawing", new int[] {no.size(-1), no.size(0), no.size(1), no.size(2), no.size(3)}, -1, 0, 0, 0, -1);
        Due.sheet(no, "sheet");
        due.row("size(_) of a fault", new int[] {no.size(0), no.size(1), no.size(2)}, 0, 0, 0);
        due.is("size(2) of a ring", Due.drawn(Due.TWO_RINGS).size(2), 0);
    }

    private static void troubleTold() {
        due.says(39, "TROUBLE.");
        PenTrails x = new PenTrails();
        due.is("trouble() of a new object", x.trouble(), 0);
        x.trouble();
        due.is("trouble() twice", x.trouble(), 0);
        x.travel();
        due.row("trouble() twice", new int[] {x.trouble(), x.trouble()}, 1, 1);
        Due.sheet(x, "sheet size 9 join 0;stroke 0 0 9 9");
        due.is("trouble() behind a right sheet()", x.trouble(), 0);
        // Answers below 0 that refuse nothing.
        due.is("walk(0, 1)", x, x.walk(0, 1), -2, 0);
        due.is("would(9, 9, 0, 0)", x, x.would(9, 9, 0, 0), 0, 0);
        x.drop(0);
        due.is("longest()", x, x.longest(), -2, 0);
        due.is("farthest()", x, x.farthest(), -2, 0);
        due.is("worst()", x, x.worst(), -2, 0);
    }

    public static void main(String[] args) {
        acts();
        asAtFirst();
        undoKeepsTen();
        order();
        troubles();
        constants();
        woulds();
        worsts();
        nears();
        adds();
        drops();
        homes();
        joins();
        paces();
        exchanges();
        improves();
        undos();
        looses();
        sizes();
        troubleTold();
        due.end();
    }
}
