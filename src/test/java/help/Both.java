import java.util.NoSuchElementException;

/** Asks PenTrails and the model the same, by the call's number, and tells where they differ. */
final class Both {
    static final int CALLS = 39;
    final PenTrails pen = new PenTrails();
    final Model model = new Model();
    final StringBuilder told = new StringBuilder();
    int wrong = 0;
    int calls = 0;

    void feed(String text) {
        int[] five = new int[5];
        for (int from = 0; from < text.length(); from += 20) {
            for (int i = 0; i < 5; i++) {
                five[i] = 0;
                for (int j = from + 4 * i; j < from + 4 * i + 4; j++) {
                    five[i] = five[i] << 8 | (j < text.length() ? text.charAt(j) : ' ');
                }
            }
            same("feed(" + text.substring(from, Math.min(text.length(), from + 20)) + ")",
                    pen.feed(five[0], five[1], five[2], five[3], five[4]), model.feed(five));
        }
    }

    void sheet(String text) {
        feed(text);
        sheet(text.length());
    }

    void sheet(int n) {
        same("sheet(" + n + ")", pen.sheet(n), model.sheet(n));
    }

    void same(String call, long got, long due) {
        calls++;
        told.append(call).append(" = ").append(due).append('\n');
        if (got != due && wrong++ == 0) {
            System.out.println(told);
            System.out.println(call + " answered " + got + ", due is " + due);
        }
        beside(call, "trouble", pen.trouble(), model.trouble);
        beside(call, "fault", pen.fault(), model.fault);
        beside(call, "where", pen.where(), model.where());
    }

    private void beside(String call, String what, int got, int due) {
        if (got != due && wrong++ == 0) {
            System.out.println(told);
            System.out.println("behind " + call + " " + what + "() answered " + got + ", due is " + due);
        }
    }

    /** A loose meeting, or -9 where that throws. */
    private static int loose(PenTrails pen, int i) {
        try {
            return pen.loose(i);
        } catch (NoSuchElementException e) {
            return -9;
        }
    }

    private static int loose(Model model, int i) {
        try {
            return model.loose(i);
        } catch (NoSuchElementException e) {
            return -9;
        }
    }

    void ask(int call, int a, int b, int c, int d) {
        String row = " " + call + " (" + a + ", " + b + ", " + c + ", " + d + ")";
        switch (call) {
            case 0: same("about" + row, pen.about(a), model.about(a)); break;
            case 1: same("stroke" + row, pen.stroke(a, b), model.stroke(a, b)); break;
            case 2: same("meeting" + row, pen.meeting(a, b), model.meeting(a, b)); break;
            case 3: same("part" + row, pen.part(a, b), model.part(a, b)); break;
            case 4: same("pair" + row, pen.pair(a, b), model.pair(a, b)); break;
            case 5: same("walk" + row, pen.walk(a, b), model.walk(a, b)); break;
            case 6: same("trail" + row, pen.trail(a, b), model.trail(a, b)); break;
            case 7: same("ride" + row, pen.ride(a, b), model.ride(a, b)); break;
            case 8: same("travel" + row, pen.travel(), model.travel()); break;
            case 9: same("started" + row, pen.started(), model.started()); break;
            case 10: same("better" + row, pen.better(a), model.better(a)); break;
            case 11: same("exchanged" + row, pen.exchanged(a, b), model.exchanged(a, b)); break;
            case 12: same("floor" + row, pen.floor(), model.floor()); break;
            case 13: same("time" + row, pen.time(), model.time()); break;
            case 14: same("pen" + row, pen.pen(a, b), model.pen(a, b)); break;
            case 15: same("longest" + row, pen.longest(), model.longest()); break;
            case 16: same("farthest" + row, pen.farthest(), model.farthest()); break;
            case 17: same("lifts" + row, pen.lifts(), model.lifts()); break;
            case 18: same("rides" + row, pen.rides(a), model.rides(a)); break;
            case 19: same("would" + row, pen.would(a, b, c, d), model.would(a, b, c, d)); break;
            case 20: same("worst" + row, pen.worst(), model.worst()); break;
            case 21: same("nearest" + row, pen.nearest(), model.nearest()); break;
            case 22: same("enough" + row, pen.enough(a), model.enough(a)); break;
            case 23: same("loose" + row, loose(pen, a), loose(model, a)); break;
            case 24: same("size" + row, pen.size(a), model.size(a)); break;
            default: act(call, a, b, c, d);
        }
    }

    private void act(int call, int a, int b, int c, int d) {
        String row = " " + call + " (" + a + ", " + b + ", " + c + ", " + d + ")";
        switch (call) {
            case 25:
            case 26: same("add" + row, pen.add(a, b, c, d), model.add(a, b, c, d)); break;
            case 27: same("drop" + row, pen.drop(a), model.drop(a)); break;
            case 28: same("home" + row, pen.home(a, b), model.home(a, b)); break;
            case 29: same("join" + row, pen.join(a), model.join(a)); break;
            case 30: same("pace" + row, pen.pace(a, b), model.pace(a, b)); break;
            case 31:
            case 32:
            case 33: same("exchange" + row, pen.exchange(a, b), model.exchange(a, b)); break;
            case 34: same("improve" + row, pen.improve(), model.improve()); break;
            case 35:
            case 36: same("undo" + row, pen.undo() ? 1 : 0, model.undo() ? 1 : 0); break;
            case 37: same("feed" + row, pen.feed(a, b, c, d, a), model.feed(a, b, c, d, a)); break;
            default: same("sheet" + row, pen.sheet(a), model.sheet(a));
        }
    }

    /** What would be: slow in the model, so for some n alone. */
    void askNear() {
        ask(20, 0, 0, 0, 0);
        ask(21, 0, 0, 0, 0);
        for (int n = 0; n <= 25; n += n < 4 ? 1 : 7) {
            ask(22, n, 0, 0, 0);
        }
    }

    /** All that can be told of drawing and plan. */
    void askAll() {
        for (int what = -1; what <= 11; what++) {
            ask(0, what, 0, 0, 0);
        }
        for (int i = -1; i <= 24; i++) {
            for (int what = -1; what <= 7; what++) {
                ask(1, i, what, 0, 0);
                ask(3, i, what, 0, 0);
                ask(4, i, what, 0, 0);
                ask(6, i, what, 0, 0);
            }
            for (int k = -1; k <= 24; k++) {
                ask(7, i, k, 0, 0);
                ask(11, i, k, 0, 0);
            }
            for (int k = -1; k <= 48; k++) {
                ask(5, i, k, 0, 0);
            }
            ask(18, i, 0, 0, 0);
        }
        for (int m = -1; m <= 48; m++) {
            for (int what = -1; what <= 5; what++) {
                ask(2, m, what, 0, 0);
            }
            ask(23, m, 0, 0, 0);
        }
        for (int call : new int[] {8, 9, 12, 13, 15, 16, 17}) {
            ask(call, 0, 0, 0, 0);
        }
        for (int what = -1; what <= 3; what++) {
            ask(10, what, 0, 0, 0);
            ask(24, what, 0, 0, 0);
            for (int t = -1; t < 300; t += 1 + t / 20) {
                ask(14, t, what, 0, 0);
            }
        }
    }
}
