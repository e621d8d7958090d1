/** Promises 1 to 11: the tape, the text of a drawing, and what follows from its strokes. */
public final class DrawingTest {
    private static final Due due = new Due();

    private static void newObject() {
        due.promise(1);
        PenTrails x = new PenTrails();
        due.is("trouble()", x.trouble(), 0);
        due.is("fault()", x.fault(), 0);
        due.is("where()", x.where(), -1);
        for (int what = -1; what <= 11; what++) {
            due.is("about(" + what + ")", x, x.about(what), -1, 1);
        }
        due.is("travel()", x, x.travel(), -1, 1);
        due.is("undo()", x, x.undo() ? 1 : 0, 0, 1);
        due.is("NONE", PenTrails.NONE, -1);
    }

    private static void feeding() {
        due.promise(2);
        PenTrails x = new PenTrails();
        x.travel();
        for (int n = 20; n <= 700; n += 20) {
            due.is("feed()", x, x.feed(n, -1, 0, Due.MIN, Due.MAX), n, 1);
        }
        due.is("feed() on a full tape", x, x.feed(1, 2, 3, 4, 5), -1, 1);
        due.is("size(0)", x.size(0), 700);
        due.is("sheet(701)", x, x.sheet(701), -1, 2);
        due.is("size(0)", x.size(0), 700);
        due.is("sheet(700)", x, x.sheet(700), -1, 4);
        due.is("where()", x.where(), 0);
        due.is("feed() behind that", x.feed(1, 2, 3, 4, 5), 20);
        PenTrails full = Due.drawn("sheet size 200 join 0" + " ".repeat(679));
        due.is("about(0) of 700 bytes", full.about(0), 200);
    }

    /** As many strokes, ends, meetings, parts, pairs and trails as there can be. */
    private static void full() {
        due.promise(3);
        StringBuilder text = new StringBuilder("sheet size 200 join 0;home 200 200;pace 9 9");
        for (int s = 0; s < 24; s++) {
            text.append(";stroke ").append(8 * s).append(" 0 ").append(8 * s).append(" 100");
        }
        PenTrails x = new PenTrails();
        due.is("sheet() of 24", x, Due.sheet(x, text.toString()), 24, 0);
        due.row("about(_)", new int[] {x.about(7), x.about(8), x.about(9), x.about(10)}, 48, 24, 48, 24);
        due.row("the last", new int[] {x.stroke(23, 6), x.meeting(47, 3), x.part(23, 4), x.pair(23, 1), x.walk(23, 0),
            x.walk(23, 1), x.trail(23, 3), x.ride(23, 0), x.rides(23)}, 47, 23, 46, 47, 46, -2, 47, 46, 23);
        due.is("loose(47)", x.loose(47), 47);
        due.is("exchange(0, 23)", x.exchange(0, 23), 116 + 23 * 108 + 400);
        due.is("floor()", x.floor(), 116 + 23 * 8);
        due.is("time()", x.time(), 9 * (2400 + 3000));
        due.is("pen(99999, 2)", x.pen(99999, 2), 24);
        due.is("drop(23)", x.drop(23), 23);
    }

    private static void byteOrder() {
        due.promise(2);
        PenTrails x = new PenTrails();
        // "sheet size 9 join 8;" with the highest byte of each number first
        x.feed(0x73686565, 0x74207369, 0x7a652039, 0x206a6f69, 0x6e20383b);
        due.is("sheet(19)", x, x.sheet(19), 0, 0);
        due.is("about(0)", x.about(0), 9);
        due.is("about(1)", x.about(1), 8);
        x.feed(0xe8737373, 0, 0, 0, 0);
        due.is("sheet(1) of a byte above 127", x, x.sheet(1), -1, 4);
        due.is("fault()", x.fault(), 1);
    }

    private static void sheets() {
        due.promise(3);
        PenTrails x = Due.drawn(Due.CROSS + ";home 3 4;pace 5 6");
        due.is("size(0)", x.size(0), 0);
        x.exchange(0, 0);
        Due.feed(x, "sheet size 7 join 2;stroke 0 0 7 7");
        due.is("sheet(-1)", x, x.sheet(-1), -1, 2);
        due.is("sheet(41)", x, x.sheet(41), -1, 2);
        due.is("sheet(MIN)", x, x.sheet(Due.MIN), -1, 2);
        due.is("size(0)", x.size(0), 40);
        due.is("sheet(33), cut short", x, x.sheet(33), -1, 4);
        due.is("size(0)", x.size(0), 0);
        due.is("about(2)", x.about(2), 4);
        due.is("trail(0, 5)", x.trail(0, 5), 1);
        due.is("size(1)", x.size(1), 1);
        due.is("sheet()", x, Due.sheet(x, "sheet size 7 join 2;stroke 0 0 7 7"), 1, 0);
        due.is("size(1)", x.size(1), 0);
        due.is("about(0)", x.about(0), 7);
        due.row("HOME and PACE", new int[] {x.about(3), x.about(4), x.about(5), x.about(6)}, 0, 0, 1, 1);
        due.is("trail(0, 5)", x.trail(0, 5), 0);
        due.is("sheet() of none", Due.sheet(x, "sheet size 7 join 2"), 0);
        due.is("about(10)", x.about(10), 0);
    }

    /** How blanks and bounds may stand; what is refused is told by place. */
    private static void text(String text, int strokes, int fault, int where) {
        PenTrails x = new PenTrails();
        due.is("sheet of '" + text + "'", x, Due.sheet(x, text), fault == 0 ? strokes : -1, fault == 0 ? 0 : 4);
        due.is("fault() of '" + text + "'", x.fault(), fault);
        due.is("where() of '" + text + "'", x.where(), where);
    }

    private static void rightTexts() {
        due.promise(3);
        text("sheet size 1 join 0", 0, 0, -1);
        text("sheet size 200 join 50", 0, 0, -1);
        text("  sheet   size 020 join 01  ;  pace 1 9 ;home 20 0;stroke 0 0 20 20   ", 1, 0, -1);
        text("sheet size20join1;stroke0 0 0 1;home0 0;pace9 9", 1, 0, -1);
        text("sheet size 20 join 1" + ";stroke 0 0 1 1".repeat(24) + ";home 1 1", 24, 0, -1);
    }

    private static void faults() {
        due.promise(4);
        text("", 0, 1, 0);
        text("   ", 0, 1, 3);
        text(";", 0, 1, 0);
        text("shee", 0, 1, 0);
        text("sheet", 0, 1, 5);
        text("sheet  ", 0, 1, 7);
        text("sheet join 1", 0, 1, 6);
        text("sheet size x", 0, 1, 11);
        text("sheet size 20 join 1;", 0, 1, 21);
        text("sheet size 20 join 1;;home 1 1", 0, 1, 21);
        text("sheet size 20 join 1 home 1 1", 0, 1, 21);
        text("sheet size 20 join 1;homes 1 1", 0, 1, 21);
        text("sheet size 20 join 1;strokes 1 1", 0, 1, 21);
        text("sheet size 20 join 1;home 1 1 1", 0, 1, 30);
        text("sheet size 20 join 1;home 1;home", 0, 1, 27);
        text("sheet size 20 join 1;home 0001 1", 0, 1, 26);
        text("sheet size 20 join 1;home -1 1", 0, 1, 26);
        text("sheet size 20 join 1;Home 1 1", 0, 1, 21);
        text("sheet size 20 join 1\t;home 1 1", 0, 1, 20);
        text("sheet size 20 join 1;stroke 1 2 3 4 5", 0, 1, 36);
        text("sheet size 0 join 1", 0, 2, 11);
        text("sheet size 201 join", 0, 2, 11);
        text("sheet size 999 join", 0, 2, 11);
        text("sheet size 20 join 51", 0, 2, 19);
        text("sheet size 20 join 1;home 21 1", 0, 2, 26);
        text("sheet size 20 join 1;home 1 21", 0, 2, 28);
        text("sheet size 20 join 1;pace 0 1", 0, 2, 26);
        text("sheet size 20 join 1;pace 1 10", 0, 2, 28);
        text("sheet size 20 join 1;stroke 0 0 0 21", 0, 2, 34);
        text("sheet size 20 join 1;stroke 21 0 21 0", 0, 2, 28);
        text("sheet size 20 join 1;stroke 5 6 5 06 x", 0, 3, 34);
        text("sheet size 20 join 1;sheet", 0, 4, 21);
        text("sheet size 20 join 1;home 1 1;pace 1 1;home 21", 0, 4, 39);
        text("sheet size 20 join 1;pace 1 1;pace", 0, 4, 30);
        text("sheet size 20 join 1" + ";stroke 0 0 1 1".repeat(24) + ";stroke 99", 0, 5, 381);
        text("home 1 1;sheet size 20 join 1", 0, 6, 0);
        text(" pace", 0, 6, 1);
        text("stroke 999", 0, 6, 0);
    }

    private static void faultsLast() {
        due.promise(4);
        PenTrails x = new PenTrails();
        due.is("fault()", x.fault(), 0);
        Due.sheet(x, "sheet size 0");
        due.is("fault()", x.fault(), 2);
        x.sheet(1);
        due.is("fault() behind a sheet() refused by 2", x.fault(), 2);
        Due.sheet(x, "sheet size 1 join 0");
        due.is("fault() behind a right sheet()", x.fault(), 0);
    }

    private static void places() {
        due.promise(5);
        PenTrails x = Due.drawn("sheet size 2 join 0");
        due.is("where()", x.where(), -1);
        Due.sheet(x, "sheet size 0");
        due.is("where()", x.where(), 11);
        x.fault();
        x.size(0);
        x.trouble();
        x.feed(1, 1, 1, 1, 1);
        due.throwsNone("loose(0)", x, 0);
        due.is("where() behind calls that can't be refused", x.where(), 11);
        x.travel();
        due.is("where() behind travel()", x.where(), -1);
        due.is("fault()", x.fault(), 2);
        Due.sheet(x, "sheet");
        x.sheet(-1);
        due.is("where() behind a refusal by 2", x.where(), -1);
    }

    private static void abouts() {
        due.promise(6);
        PenTrails x = Due.drawn(Due.SQUARE_AND_ARMS + ";home 7 8;pace 2 3");
        int[] answers = {20, 1, 7, 7, 8, 2, 3, 8, 2, 4, 3};
        for (int what = 0; what <= 10; what++) {
            due.is("about(" + what + ")", x, x.about(what), answers[what], 0);
        }
        for (int what : new int[] {Due.MIN, -1, 11, Due.MAX}) {
            due.is("about(" + what + ")", x, x.about(what), -1, 1);
        }
    }

    private static void strokes() {
        due.promise(7);
        PenTrails x = Due.drawn(Due.SQUARE_AND_ARMS);
        int[] answers = {14, 0, 14, 6, 6, 5, 6};
        for (int what = 0; what <= 6; what++) {
            due.is("stroke(5, " + what + ")", x, x.stroke(5, what), answers[what], 0);
        }
        due.is("stroke(3, 5)", x.stroke(3, 5), 3);
        due.is("stroke(3, 6)", x.stroke(3, 6), 0);
        for (int bad : new int[] {Due.MIN, -1, 7, Due.MAX}) {
            due.is("stroke(" + bad + ", 0)", x, x.stroke(bad, 0), -1, 1);
            due.is("stroke(0, " + bad + ")", x, x.stroke(0, bad), -1, 1);
        }
        due.is("stroke(0, 0) without a drawing", new PenTrails().stroke(0, 0), -1);
    }

    private static void meetings() {
        due.promise(8);
        PenTrails x = Due.drawn(Due.SQUARE_AND_ARMS);
        int[] answers = {14, 0, 3, 1, 9};
        for (int what = 0; what <= 4; what++) {
            due.is("meeting(5, " + what + ")", x, x.meeting(5, what), answers[what], 0);
        }
        for (int bad : new int[] {Due.MIN, -1, 8, Due.MAX}) {
            due.is("meeting(" + bad + ", 0)", x, x.meeting(bad, 0), -1, 1);
        }
        due.is("meeting(0, 5)", x, x.meeting(0, 5), -1, 1);
        due.is("meeting(0, -1)", x, x.meeting(0, -1), -1, 1);
        // Ends 5, 3 and 1 hang together one by one, though 5 and 1 are 6 apart.
        PenTrails chain = Due.drawn("sheet size 50 join 3;stroke 10 10 0 0;stroke 20 20 6 0;stroke 30 30 3 0");
        due.is("about(7) of a chain", chain.about(7), 4);
        due.row("meeting(1, _) of a chain", new int[] {chain.meeting(1, 0), chain.meeting(1, 1),
            chain.meeting(1, 2), chain.meeting(1, 4)}, 0, 0, 3, 1);
        chain.join(2);
        due.is("about(7) by a lesser join", chain.about(7), 6);
        PenTrails self = Due.drawn("sheet size 9 join 4;stroke 1 1 3 3");
        due.is("meeting(0, 2) with both ends", self.meeting(0, 2), 2);
        due.is("about(9)", self.about(9), 0);
    }

    private static void parts() {
        due.promise(9);
        PenTrails x = Due.drawn(Due.SQUARE_AND_ARMS);
        int[] arms = {4, 3, 4, 2, 4, 14};
        int[] square = {4, 4, 0, 1, 0, 0};
        for (int what = 0; what <= 5; what++) {
            due.is("part(0, " + what + ")", x, x.part(0, what), square[what], 0);
            due.is("part(1, " + what + ")", x, x.part(1, what), arms[what], 0);
        }
        for (int bad : new int[] {Due.MIN, -1, 6, Due.MAX}) {
            due.is("part(" + bad + ", 0)", x, x.part(bad, 0), -1, 1);
            due.is("part(0, " + bad + ")", x, x.part(0, bad), -1, 1);
        }
        due.is("part(2, 0)", x, x.part(2, 0), -1, 1);
        // The third stroke makes one part of meetings 0, 1 and 2, 3.
        PenTrails tied = Due.drawn("sheet size 9 join 0;stroke 0 0 1 0;stroke 5 5 6 6;stroke 9 9 9 8;stroke 6 6 0 0");
        due.is("about(8)", tied.about(8), 2);
        due.is("part(0, 0)", tied.part(0, 0), 4);
        due.is("part(1, 4)", tied.part(1, 4), 4);
    }

    /** Arms from the middle to (i, 0) and (i, 100) by turns. */
    private static String comb(int arms) {
        StringBuilder text = new StringBuilder("sheet size 200 join 0");
        for (int i = 0; i < arms; i++) {
            text.append(";stroke 50 50 ").append(i).append(i % 2 == 0 ? " 0" : " 100");
        }
        return text.toString();
    }

    private static void pairs() {
        due.promise(10);
        PenTrails x = Due.drawn(Due.CROSS);
        int[][] answers = {{1, 3, 10, 1}, {2, 4, 10, 0}};
        for (int what = 0; what <= 3; what++) {
            due.is("pair(0, " + what + ")", x, x.pair(0, what), answers[0][what], 0);
            due.is("pair(1, " + what + ")", x, x.pair(1, what), answers[1][what], 0);
        }
        for (int bad : new int[] {Due.MIN, -1, 4, Due.MAX}) {
            due.is("pair(" + bad + ", 0)", x, x.pair(bad, 0), -1, 1);
            due.is("pair(0, " + bad + ")", x, x.pair(0, bad), -1, 1);
        }
        due.is("pair(2, 0)", x, x.pair(2, 0), -1, 1);
        PenTrails few = Due.drawn(comb(14));
        int[][] least = {{1, 2, 101}, {3, 5, 2}, {4, 6, 2}, {7, 9, 2}, {8, 10, 2}, {11, 13, 2}, {12, 14, 2}};
        for (int i = 0; i < 7; i++) {
            due.row("pair(" + i + ", _) of 14", new int[] {few.pair(i, 0), few.pair(i, 1), few.pair(i, 2)}, least[i]);
            due.is("pair(" + i + ", 3) of 14", few.pair(i, 3), i == 0 ? 1 : 0);
        }
        due.is("part(0, 5) of 14", few.part(0, 5), 113);
        PenTrails many = Due.drawn(comb(16));
        for (int i = 0; i < 8; i++) {
            due.row("pair(" + i + ", _) of 16", new int[] {many.pair(i, 0), many.pair(i, 1), many.pair(i, 2),
                many.pair(i, 3)}, 2 * i + 1, 2 * i + 2, 101, i == 0 ? 1 : 0);
        }
    }

    private static void walks() {
        due.promise(11);
        PenTrails x = Due.drawn(Due.SQUARE_AND_ARMS);
        due.row("walk(0, _)", Due.walkOf(x, 0), 0, 2, 4, 6, -2, -2);
        due.row("walk(1, _)", Due.walkOf(x, 1), 11, 9, -3, 12, -2, -2);
        due.is("walk(1, MAX)", x, x.walk(1, Due.MAX), -2, 0);
        due.is("walk(1, -1)", x, x.walk(1, -1), -1, 1);
        due.is("walk(1, MIN)", x, x.walk(1, Due.MIN), -1, 1);
        due.is("walk(2, 0)", x, x.walk(2, 0), -1, 1);
        due.is("walk(-1, 0)", x, x.walk(-1, 0), -1, 1);
        due.row("walk of a cross", Due.walkOf(Due.drawn(Due.CROSS), 0), 1, 2, -4, 7, 4, -2);
        due.row("walk of two rings", Due.walkOf(Due.drawn(Due.TWO_RINGS), 0), 0, 6, 8, 10, 2, 4, -2);
        // Both ends in one meeting: from the first; and a ring at the first place of the walk.
        due.row("walk of three loops", Due.walkOf(Due.drawn(
            "sheet size 9 join 1;stroke 1 0 0 0;stroke 0 0 0 1;stroke 9 9 8 9"), 0), 0, 2, -2);
        // The walk is stuck at (4, 0) at once; the ring from (0, 0), its first place, comes ahead of that.
        due.row("walk with a ring at its first place", Due.walkOf(Due.drawn("sheet size 9 join 0;"
            + "stroke 0 0 4 0;stroke 0 0 0 4;stroke 0 4 4 4;stroke 4 4 0 0"), 0), 2, 4, 6, 0, -2);
    }

    public static void main(String[] args) {
        newObject();
        feeding();
        full();
        byteOrder();
        sheets();
        rightTexts();
        faults();
        faultsLast();
        places();
        abouts();
        strokes();
        meetings();
        parts();
        pairs();
        walks();
        due.end();
    }
}
