/** Promises 29 to 39: acts, undone or not, and what is told of them. */
public final class ActsTest {
    private static final Due due = new Due();

    private static void added() {
        due.promise(29);
        PenTrails x = Due.drawn(Due.CROSS);
        x.exchange(0, 0);
        due.is("add(0, 0, 10, 0)", x, x.add(0, 0, 10, 0), 5, 0);
        due.row("stroke(4, _)", new int[] {x.stroke(4, 0), x.stroke(4, 1), x.stroke(4, 2), x.stroke(4, 3),
            x.stroke(4, 5), x.stroke(4, 6)}, 0, 0, 10, 0, 1, 3);
        due.is("about(10)", x.about(10), 1);
        due.is("trail(0, 5): as at first", x.trail(0, 5), 0);
        int[][] bad = {{1, 1, 1, 1}, {-1, 0, 1, 1}, {0, 11, 1, 1}, {0, 0, 11, 1}, {0, 0, 1, -1}, {Due.MAX, 0, 0, Due.MIN}};
        for (int[] e : bad) {
            due.is("add() of no stroke", x, x.add(e[0], e[1], e[2], e[3]), -1, 2);
        }
        due.is("size(1)", x.size(1), 2);
        for (int n = 6; n <= 24; n++) {
            due.is("add()", x, x.add(0, 0, 10, 10), n, 0);
        }
        due.is("add() without room", x, x.add(0, 0, 10, 10), -1, 3);
        due.is("add() of no stroke without room", x, x.add(0, 0, 0, 0), -1, 2);
        due.is("about(2)", x.about(2), 24);
        PenTrails none = new PenTrails();
        due.is("add() without a drawing", none, none.add(0, 0, 0, 0), -1, 1);
    }

    private static void dropped() {
        due.promise(30);
        PenTrails x = Due.drawn(Due.CROSS);
        x.exchange(0, 0);
        due.is("drop(1)", x, x.drop(1), 3, 0);
        due.is("stroke(1, 2)", x.stroke(1, 2), 10);
        due.is("stroke(1, 3)", x.stroke(1, 3), 0);
        due.is("stroke(2, 3)", x.stroke(2, 3), 10);
        due.is("trail(0, 5): as at first", x.trail(0, 5), 0);
        for (int bad : new int[] {Due.MIN, -1, 3, Due.MAX}) {
            due.is("drop(" + bad + ")", x, x.drop(bad), -1, 1);
        }
        due.is("drop(2), the last", x.drop(2), 2);
        due.is("drop(0)", x.drop(0), 1);
        due.is("drop(0)", x.drop(0), 0);
        due.is("drop(0) of none", x, x.drop(0), -1, 1);
        due.is("travel()", x.travel(), 0);
        PenTrails none = new PenTrails();
        due.is("drop(0) without a drawing", none, none.drop(0), -1, 1);
    }

    private static void homeMoved() {
        due.promise(31);
        PenTrails x = Due.drawn(Due.CROSS);
        x.exchange(1, 1);
        due.is("home(10, 0)", x, x.home(10, 0), 10 + 10 + 20, 0);
        due.is("about(3)", x.about(3), 10);
        due.is("about(4)", x.about(4), 0);
        due.is("trail(1, 5): the plan stays", x.trail(1, 5), 1);
        due.is("home(10, 0) once more", x, x.home(10, 0), 40, 0);
        due.is("size(1)", x.size(1), 3);
        for (int bad : new int[] {Due.MIN, -1, 11, Due.MAX}) {
            due.is("home(" + bad + ", 0)", x, x.home(bad, 0), -1, 2);
            due.is("home(0, " + bad + ")", x, x.home(0, bad), -1, 2);
        }
        due.is("about(3) behind refusals", x.about(3), 10);
        PenTrails none = new PenTrails();
        due.is("home(-1, 0) without a drawing", none, none.home(-1, 0), -1, 1);
        Due.sheet(none, "sheet size 9 join 0");
        due.is("home(9, 9) without trails", none, none.home(9, 9), 0, 0);
    }

    private static void joined() {
        due.promise(32);
        PenTrails x = Due.drawn(Due.SQUARE_AND_ARMS);
        x.exchange(1, 1);
        due.is("join(1): the same", x, x.join(1), 3, 0);
        due.is("trail(1, 5): the plan stays", x.trail(1, 5), 1);
        due.is("size(1)", x.size(1), 2);
        due.is("join(2): nothing else meets", x, x.join(2), 3, 0);
        due.is("trail(1, 5): as at first", x.trail(1, 5), 0);
        due.is("join(6)", x, x.join(6), 1, 0);
        due.is("about(1)", x.about(1), 6);
        due.is("meeting(0, 2)", x.meeting(0, 2), 14);
        due.is("join(0)", x, x.join(0), 3, 0);
        due.is("join(50)", x, x.join(50), 1, 0);
        for (int bad : new int[] {Due.MIN, -1, 51, Due.MAX}) {
            due.is("join(" + bad + ")", x, x.join(bad), -1, 2);
        }
        due.is("about(1) behind refusals", x.about(1), 50);
        PenTrails none = new PenTrails();
        due.is("join(-1) without a drawing", none, none.join(-1), -1, 1);
    }

    private static void paced() {
        due.promise(33);
        PenTrails x = Due.drawn(Due.CROSS);
        x.exchange(1, 1);
        due.is("pace(2, 3)", x, x.pace(2, 3), 80 + 60, 0);
        due.is("about(5)", x.about(5), 2);
        due.is("about(6)", x.about(6), 3);
        due.is("pace(9, 9)", x, x.pace(9, 9), 540, 0);
        due.is("trail(1, 5): the plan stays", x.trail(1, 5), 1);
        for (int bad : new int[] {Due.MIN, 0, 10, Due.MAX}) {
            due.is("pace(" + bad + ", 1)", x, x.pace(bad, 1), -1, 2);
            due.is("pace(1, " + bad + ")", x, x.pace(1, bad), -1, 2);
        }
        due.is("about(5) behind refusals", x.about(5), 9);
        PenTrails none = new PenTrails();
        due.is("pace(0, 0) without a drawing", none, none.pace(0, 0), -1, 1);
    }

    private static void exchangedByHand() {
        due.promise(34);
        PenTrails x = Due.drawn(Due.SQUARE_AND_ARMS);
        due.is("exchange(0, 2)", x, x.exchange(0, 2), 18 + 4 + 20, 0);
        due.row("trail(_, 6)", new int[] {x.trail(0, 6), x.trail(1, 6), x.trail(2, 6)}, 2, 1, 0);
        due.row("trail(_, 5)", new int[] {x.trail(0, 5), x.trail(1, 5), x.trail(2, 5)}, 1, 1, 1);
        due.is("exchange(1, 1)", x, x.exchange(1, 1), 18 + 6 + 10, 0);
        due.is("exchange(2, 1)", x, x.exchange(2, 1), -1, 2);
        due.is("exchange(3, 1)", x, x.exchange(3, 1), -1, 1);
        due.is("exchange(0, 3)", x, x.exchange(0, 3), -1, 1);
        due.is("exchange(-1, 0)", x, x.exchange(-1, 0), -1, 1);
        due.is("exchange(MIN, MAX)", x, x.exchange(Due.MIN, Due.MAX), -1, 1);
        due.is("size(1)", x.size(1), 2);
        PenTrails none = new PenTrails();
        due.is("exchange(0, 0) without a drawing", none, none.exchange(0, 0), -1, 1);
    }

    private static void improved() {
        due.promise(35);
        PenTrails x = Due.drawn(Due.SQUARE_AND_ARMS);
        due.is("improve()", x, x.improve(), 34, 0);
        due.is("trail(1, 5)", x.trail(1, 5), 1);
        due.is("size(1)", x.size(1), 1);
        due.is("improve() of the best", x, x.improve(), -1, 5);
        due.is("size(1) behind a refusal", x.size(1), 1);
        due.is("undo()", x, x.undo() ? 1 : 0, 1, 0);
        due.is("travel()", x.travel(), 42);
        // Two exchanges are one act.
        PenTrails line = Due.drawn("sheet size 30 join 0;stroke 20 0 10 0;stroke 12 0 2 0;stroke 8 0 0 0");
        due.is("improve() on a line", line, line.improve(), 12, 0);
        due.row("trail(_, 6)", new int[] {line.trail(0, 6), line.trail(1, 6), line.trail(2, 6)}, 1, 0, 2);
        due.row("trail(_, 5)", new int[] {line.trail(0, 5), line.trail(1, 5), line.trail(2, 5)}, 1, 0, 0);
        line.undo();
        due.is("travel() undone", line.travel(), 28);
        due.is("size(1)", line.size(1), 0);
        PenTrails none = new PenTrails();
        due.is("improve() without a drawing", none, none.improve(), -1, 1);
        Due.sheet(none, "sheet size 9 join 0");
        due.is("improve() without trails", none, none.improve(), -1, 5);
    }

    private static void undone() {
        due.promise(36);
        PenTrails x = Due.drawn(Due.CROSS + ";home 1 2;pace 3 4");
        due.is("undo() of nothing", x, x.undo() ? 1 : 0, 0, 1);
        x.exchange(0, 1);
        x.exchange(1, 1);
        x.add(0, 0, 10, 0);
        x.drop(0);
        x.home(5, 5);
        x.join(20);
        x.pace(9, 8);
        due.is("size(1)", x.size(1), 7);
        due.is("undo() of pace()", x, x.undo() ? 1 : 0, 1, 0);
        due.is("about(5)", x.about(5), 3);
        due.is("about(6)", x.about(6), 4);
        x.undo();
        due.is("about(1)", x.about(1), 0);
        x.undo();
        due.is("about(3)", x.about(3), 1);
        due.is("about(4)", x.about(4), 2);
        x.undo();
        due.is("about(2)", x.about(2), 5);
        due.is("stroke(0, 2)", x.stroke(0, 2), 0);
        x.undo();
        due.is("about(2)", x.about(2), 4);
        due.row("the plan ahead of add()", new int[] {x.trail(0, 6), x.trail(0, 5), x.trail(1, 6), x.trail(1, 5)}, 1, 1, 0, 0);
        x.undo();
        due.row("ahead of exchange()", new int[] {x.trail(0, 6), x.trail(0, 5), x.trail(1, 6), x.trail(1, 5)}, 1, 1, 0, 1);
        x.undo();
        due.row("at first", new int[] {x.trail(0, 6), x.trail(0, 5), x.trail(1, 6), x.trail(1, 5)}, 0, 0, 1, 0);
        due.is("undo() of no more", x, x.undo() ? 1 : 0, 0, 1);
    }

    private static void tenKept() {
        due.promise(36);
        PenTrails x = Due.drawn("sheet size 200 join 0");
        for (int n = 1; n <= 13; n++) {
            x.home(n, n);
            due.is("size(1)", x.size(1), Math.min(n, 10));
        }
        for (int n = 12; n >= 3; n--) {
            due.is("undo()", x, x.undo() ? 1 : 0, 1, 0);
            due.is("about(3)", x.about(3), n);
        }
        due.is("undo() of the eleventh", x, x.undo() ? 1 : 0, 0, 1);
        due.is("about(3)", x.about(3), 3);
        x.home(50, 50);
        x.undo();
        due.is("about(3) behind an act undone", x.about(3), 3);
    }

    private static void loose() {
        due.promise(37);
        PenTrails x = Due.drawn(Due.SQUARE_AND_ARMS);
        x.travel();
        // Meeting 5 is odd as well, but has three ends.
        due.row("loose(_)", new int[] {x.loose(0), x.loose(1), x.loose(2)}, 4, 6, 7);
        for (int bad : new int[] {Due.MIN, -1, 3, Due.MAX}) {
            due.throwsNone("loose(" + bad + ")", x, bad);
            due.is("trouble() behind it", x.trouble(), 0);
        }
        due.throwsNone("loose(4) of a cross", Due.drawn(Due.CROSS), 4);
        due.throwsNone("loose(0) of rings", Due.drawn(Due.TWO_RINGS), 0);
        due.throwsNone("loose(0) without a drawing", new PenTrails(), 0);
        due.throwsNone("loose(-1) without a drawing", new PenTrails(), -1);
    }

    private static void sizes() {
        due.promise(38);
        PenTrails x = new PenTrails();
        due.row("size(_)", new int[] {x.size(-1), x.size(0), x.size(1), x.size(2), x.size(3)}, -1, 0, 0, 0, -1);
        Due.sheet(x, Due.SQUARE_AND_ARMS);
        due.row("size(_)", new int[] {x.size(-1), x.size(0), x.size(1), x.size(2), x.size(3)}, -1, 0, 0, 2, -1);
        x.feed(0, 0, 0, 0, 0);
        x.join(0);
        x.home(99, 99);
        due.row("size(_)", new int[] {x.size(Due.MIN), x.size(0), x.size(1), x.size(2), x.size(Due.MAX)}, -1, 20, 1, 2, -1);
        due.is("trouble() behind size()", x.trouble(), 2);
    }

    private static void troubles() {
        due.promise(39);
        PenTrails x = new PenTrails();
        due.is("trouble()", x.trouble(), 0);
        x.sheet(1);
        due.is("a number", x.trouble(), 2);
        x.sheet(0);
        due.is("a fault", x.trouble(), 4);
        x.about(0);
        due.is("none such", x.trouble(), 1);
        x.feed(0, 0, 0, 0, 0);
        x.fault();
        x.where();
        x.size(9);
        x.trouble();
        due.is("none of these may be refused", x.trouble(), 1);
        x.sheet(0);
        Due.sheet(x, "sheet size 20 join 1" + ";stroke 0 0 1 1".repeat(24));
        due.is("not refused", x.trouble(), 0);
        x.add(0, 0, 2, 2);
        due.is("no room", x.trouble(), 3);
        x.improve();
        due.is("not so", x.trouble(), 5);
        x.walk(0, 24);
        due.is("-2 is no refusal", x.trouble(), 0);
    }

    public static void main(String[] args) {
        added();
        dropped();
        homeMoved();
        joined();
        paced();
        exchangedByHand();
        improved();
        undone();
        tenKept();
        loose();
        sizes();
        troubles();
        due.end();
    }
}
