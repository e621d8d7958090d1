import java.util.ArrayList;
import java.util.Arrays;
import java.util.Collections;
import java.util.List;
import java.util.Random;

/** Ends, meetings, parts, pairs and walks (terms II, promises 6 to 11): each sentence at its bounds. */
public final class ShapeBoundsTest {
    private static final Due due = new Due();

    /** A star: arms from its middle, each to a point of its own. */
    private static int[] star(int x, int y, int... points) {
        int[] strokes = new int[2 * points.length];
        for (int i = 0; i < points.length; i += 2) {
            strokes[2 * i] = x;
            strokes[2 * i + 1] = y;
            strokes[2 * i + 2] = points[i];
            strokes[2 * i + 3] = points[i + 1];
        }
        return strokes;
    }

    /** So many arms from (x + 50, 50) to (x + i, 0) and (x + i, 100) by turns. */
    private static int[] comb(int x, int arms) {
        int[] points = new int[2 * arms];
        for (int i = 0; i < arms; i++) {
            points[2 * i] = x + i;
            points[2 * i + 1] = i % 2 * 100;
        }
        return star(x + 50, 50, points);
    }

    private static int[] both(int[] a, int[] b) {
        int[] all = Arrays.copyOf(a, a.length + b.length);
        System.arraycopy(b, 0, all, a.length, b.length);
        return all;
    }

    private static void ends() {
        due.says(0, "II. ENDS: of STROKE s 2 s (where it begins) and 2 s + 1.");
        PenTrails x = Due.drawn(200, 0, 1, 2, 3, 4, 5, 6, 7, 8, 9, 10, 11, 12);
        for (int end = 0; end < 6; end++) {
            due.is("first end of meeting " + end, x.meeting(end, 4), end);
            due.is("X of meeting " + end, x.meeting(end, 0), 2 * end + 1);
            due.is("Y of meeting " + end, x.meeting(end, 1), 2 * end + 2);
            due.is("meeting of end " + end, x.stroke(end / 2, 5 + end % 2), end);
        }
        due.says(0, "TRAVEL from POINT to POINT: how far apart their X are and how far apart their Y, together.");
        int[][] apart = {{3, 9, 7, 2, 11}, {7, 2, 3, 9, 11}, {3, 2, 7, 9, 11}, {7, 9, 3, 2, 11}, {5, 5, 6, 5, 1}, {5, 6, 5, 5, 1}, {0, 0, 200, 200, 400}};
        for (int[] e : apart) {
            due.is("pair(0, 2)", Due.drawn(200, 0, e[0], e[1], e[2], e[3]).pair(0, 2), e[4]);
        }
        due.says(0, "LENGTH of a STROKE: TRAVEL from END to END.");
        PenTrails lengths = Due.drawn(200, 0, 3, 9, 7, 2, 7, 2, 3, 9, 3, 2, 7, 9, 5, 5, 6, 5, 5, 6, 5, 5, 0, 0, 200, 200, 0, 200, 200, 0);
        int[] of = {11, 11, 11, 1, 1, 400, 400};
        for (int s = 0; s < of.length; s++) {
            due.is("stroke(" + s + ", 4)", lengths.stroke(s, 4), of[s]);
        }
    }

    private static void meetings() {
        due.says(0, "MEETINGS: ENDS that hang together, one by one, by a TRAVEL of JOIN or less;");
        for (int join : new int[] {0, 1, 2, 49, 50}) {
            for (int across = 0; across <= join; across++) {
                PenTrails near = Due.drawn(200, join, 0, 0, 0, 200, across, join - across, 200, 200);
                due.is("about(7) by " + join, near.about(7), 3);
                PenTrails far = Due.drawn(200, join, 0, 0, 0, 200, across + 1, join - across, 200, 200);
                due.is("about(7) beyond " + join, far.about(7), 4);
            }
        }
        // Ends 1 and 3 are 6 apart, 4 is between them.
        PenTrails chain = Due.drawn(200, 3, 100, 100, 0, 0, 150, 150, 6, 0, 3, 0, 200, 200);
        due.row("meetings of ends", new int[] {chain.stroke(0, 5), chain.stroke(0, 6), chain.stroke(1, 5), chain.stroke(1, 6),
            chain.stroke(2, 5), chain.stroke(2, 6)}, 0, 1, 2, 1, 1, 3);
        due.is("would it be less without a link", chain.join(2), 3);
        due.is("about(7)", chain.about(7), 6);
        chain.join(3);
        chain.drop(2);
        due.is("about(7) without end 4", chain.about(7), 4);
        // A chain of six, each 50 from the next, told from its outer ends to its middle.
        PenTrails six = Due.drawn(200, 50, 0, 0, 200, 50, 50, 0, 200, 0, 100, 0, 150, 0);
        due.is("about(7) of a chain of all", six.about(7), 1);
        due.is("meeting(0, 2) of it", six.meeting(0, 2), 6);
        six.join(49);
        due.is("about(7) by one less", six.about(7), 6);
    }

    private static void numbers() {
        due.says(0, "numbered by their first ENDS, the POINT of which is that of the MEETING.");
        PenTrails chain = Due.drawn(200, 3, 100, 100, 0, 0, 150, 150, 6, 0, 3, 0, 200, 200);
        int[][] of = {{100, 100, 1, 0}, {0, 0, 3, 1}, {150, 150, 1, 2}, {200, 200, 1, 5}};
        for (int m = 0; m < 4; m++) {
            due.row("meeting(" + m + ", _)", new int[] {chain.meeting(m, 0), chain.meeting(m, 1), chain.meeting(m, 2),
                chain.meeting(m, 4)}, of[m]);
        }
        // Without stroke 0 the meeting's first end is that at (6, 0).
        PenTrails other = Due.drawn(200, 3, 6, 0, 150, 150, 3, 0, 200, 200, 0, 0, 100, 100);
        due.row("meeting(0, _)", new int[] {other.meeting(0, 0), other.meeting(0, 1), other.meeting(0, 2), other.meeting(0, 4)}, 6, 0, 3, 0);
        due.says(0, "(A STROKE may have both ENDS in one.)");
        PenTrails self = Due.drawn(200, 5, 10, 10, 12, 13);
        due.row("a stroke of 5 by 5", new int[] {self.about(7), self.about(8), self.about(9), self.about(10), self.stroke(0, 5),
            self.stroke(0, 6), self.meeting(0, 2)}, 1, 1, 0, 1, 0, 0, 2);
        self.join(4);
        due.row("a stroke of 5 by 4", new int[] {self.about(7), self.about(8), self.about(9), self.about(10), self.stroke(0, 5),
            self.stroke(0, 6), self.meeting(0, 2)}, 2, 1, 2, 1, 0, 1, 1);
        // Stroke 0 is 6 long; an end of stroke 1 stands between its ends.
        PenTrails linked = Due.drawn(200, 3, 0, 0, 6, 0, 3, 0, 100, 100);
        due.row("both ends by another", new int[] {linked.stroke(0, 5), linked.stroke(0, 6), linked.stroke(1, 5), linked.about(7)}, 0, 0, 0, 2);
    }

    private static void parts() {
        due.says(0, "PARTS: MEETINGS that hang together by STROKES; numbered by their first MEETINGS.");
        PenTrails x = Due.drawn(9, 0, 0, 0, 1, 0, 5, 5, 6, 6, 9, 9, 9, 8, 6, 6, 0, 0);
        due.row("part of each meeting", new int[] {x.meeting(0, 3), x.meeting(1, 3), x.meeting(2, 3), x.meeting(3, 3), x.meeting(4, 3),
            x.meeting(5, 3)}, 0, 0, 0, 0, 1, 1);
        due.row("parts", new int[] {x.about(8), x.part(0, 4), x.part(1, 4), x.part(0, 1), x.part(1, 1)}, 2, 0, 4, 3, 1);
        x.drop(3);
        due.row("parts without the link", new int[] {x.about(8), x.part(0, 4), x.part(1, 4), x.part(2, 4)}, 3, 0, 2, 4);
        // Near alone is not enough: ends must meet.
        PenTrails near = Due.drawn(20, 1, 0, 0, 5, 0, 7, 0, 12, 0);
        due.is("about(8) with a gap of 2 by 1", near.about(8), 2);
        near.join(2);
        due.is("about(8) by 2", near.about(8), 1);
        PenTrails none = Due.drawn(9, 0);
        due.is("about(8) of none", none.about(8), 0);
        due.is("part(0, 0) of none", none, none.part(0, 0), -1, 1);
    }

    private static void odd() {
        due.says(0, "A MEETING is ODD, if an odd number of ENDS are in it.");
        int[] points = {0, 0, 100, 0, 0, 100, 100, 100, 50, 0, 50, 100, 0, 50};
        int[] odd = {2, 2, 4, 4, 6, 6, 8};
        for (int arms = 1; arms <= 7; arms++) {
            PenTrails x = Due.drawn(100, 0, star(50, 50, Arrays.copyOf(points, 2 * arms)));
            due.is("meeting(0, 2) of " + arms, x.meeting(0, 2), arms);
            due.is("about(9) of " + arms + " arms", x.about(9), odd[arms - 1]);
            due.is("part(0, 2) of " + arms + " arms", x.part(0, 2), odd[arms - 1]);
            due.is("part(0, 3) of " + arms + " arms", x.part(0, 3), odd[arms - 1] / 2);
        }
    }

    private static void pairRows(String of, PenTrails x, int[][] pairs) {
        due.is("size(2) of " + of, x.size(2), pairs.length);
        for (int i = 0; i < pairs.length; i++) {
            due.row("pair(" + i + ", _) of " + of, new int[] {x.pair(i, 0), x.pair(i, 1), x.pair(i, 2), x.pair(i, 3)}, pairs[i]);
        }
        due.is("pair behind the last of " + of, x, x.pair(pairs.length, 0), -1, 1);
    }

    private static void leastPairs() {
        due.says(0, "PAIRS of a PART: its ODD MEETINGS, two by two, so that TRAVEL of all these is least together;");
        pairRows("two near twos", Due.drawn(200, 0, star(50, 50, 0, 0, 100, 0, 1, 0, 101, 0)), new int[][] {{1, 3, 1, 1}, {2, 4, 1, 0}});
        // The nearest two of all are no pair, nor are the first one and the nearest to it.
        pairRows("a line", Due.drawn(200, 0, star(50, 50, 10, 0, 11, 0, 0, 0, 21, 0)), new int[][] {{1, 3, 10, 1}, {2, 4, 10, 0}});
        pairRows("a line by a little", Due.drawn(200, 0, star(50, 50, 10, 0, 20, 0, 0, 0, 0, 29)), new int[][] {{1, 2, 10, 0}, {3, 4, 29, 1}});
        // The middle is odd as well, with three or five ends.
        pairRows("three arms", Due.drawn(200, 0, star(50, 50, 0, 0, 0, 3, 60, 50)), new int[][] {{0, 3, 10, 1}, {1, 2, 3, 0}});
        pairRows("one stroke", Due.drawn(200, 0, 5, 5, 9, 9), new int[][] {{0, 1, 8, 1}});
        pairRows("a ring", Due.drawn(Due.TWO_RINGS), new int[][] {});
        // Travel is between the points of the meetings, not between the ends that are in them.
        pairRows("near ends", Due.drawn(200, 2, 10, 10, 20, 10, 22, 10, 40, 10), new int[][] {{0, 2, 30, 1}});
        due.says(0, "of several ways that by which the first has the least partner, then the first of the others, and so on.");
        pairRows("a square", Due.drawn(Due.CROSS), new int[][] {{1, 3, 10, 1}, {2, 4, 10, 0}});
        pairRows("three ways of 200", Due.drawn(200, 0, star(50, 50, 0, 50, 100, 50, 50, 0, 50, 100)),
            new int[][] {{1, 2, 100, 1}, {3, 4, 100, 0}});
        pairRows("a two and a square", Due.drawn(200, 0, star(50, 50, 0, 0, 1, 0, 90, 90, 100, 100, 100, 90, 90, 100)),
            new int[][] {{1, 2, 1, 0}, {3, 5, 10, 1}, {4, 6, 10, 0}});
        pairRows("two twos and a square", Due.drawn(200, 0, star(50, 50, 0, 0, 1, 0, 0, 50, 1, 50, 90, 90, 100, 100, 100, 90, 90, 100)),
            new int[][] {{1, 2, 1, 0}, {3, 4, 1, 0}, {5, 7, 10, 1}, {6, 8, 10, 0}});
        pairRows("two squares", Due.drawn(200, 0, star(50, 50, 0, 0, 10, 10, 10, 0, 0, 10, 90, 90, 100, 100, 100, 90, 90, 100)),
            new int[][] {{1, 3, 10, 1}, {2, 4, 10, 0}, {5, 7, 10, 0}, {6, 8, 10, 0}});
    }

    /**
     * Arms to a line, in any order, up to 14: there the least travel pairs those that stand side by side,
     * the first two of the line, the next two, and so on, and by no other way is it as little.
     */
    private static void pairsOnALine() {
        due.says(0, "PAIRS of a PART: its ODD MEETINGS, two by two, so that TRAVEL of all these is least together;");
        Random by = new Random(14);
        for (int n = 0; n < 400; n++) {
            int arms = n < 200 ? 14 : 2 + n % 7 * 2;
            List<Integer> line = new ArrayList<>();
            while (line.size() < arms) {
                int x = by.nextInt(n % 2 == 0 ? 201 : 30);
                if (!line.contains(x)) {
                    line.add(x);
                }
            }
            int[] points = new int[2 * arms];
            for (int i = 0; i < arms; i++) {
                points[2 * i] = line.get(i);
            }
            PenTrails x = Due.drawn(200, 0, star(100, 100, points));
            List<Integer> sorted = new ArrayList<>(line);
            Collections.sort(sorted);
            int pair = 0;
            for (int i = 0; i < arms; i++) {
                int partner = line.indexOf(sorted.get(sorted.indexOf(line.get(i)) ^ 1));
                if (partner > i) {
                    due.row("pair(" + pair + ", _) of " + line, new int[] {x.pair(pair, 0), x.pair(pair, 1), x.pair(pair, 2)}, i + 1,
                        partner + 1, Math.abs(line.get(i) - line.get(partner)));
                    pair++;
                }
            }
            due.is("size(2)", x.size(2), pair);
        }
        // The first and the last of 14 are nearest to one another, but no pair.
        PenTrails ends = Due.drawn(200, 0, star(50, 50, 10, 0, 0, 0, 21, 0, 40, 0, 41, 0, 60, 0, 61, 0, 80, 0, 81, 0, 100, 0, 101, 0, 120, 0,
            121, 0, 11, 0));
        pairRows("14 with near ends", ends, new int[][] {{1, 2, 10, 1}, {3, 14, 10, 0}, {4, 5, 1, 0}, {6, 7, 1, 0}, {8, 9, 1, 0},
            {10, 11, 1, 0}, {12, 13, 1, 0}});
    }

    private static void manyPairs() {
        due.says(0, "(If there are more than 14 ODD ones: the first with the second, the third with the fourth, and so on.)");
        // With 13 or 15 arms the middle is odd as well.
        pairRows("13 arms", Due.drawn(200, 0, comb(0, 13)), new int[][] {{0, 13, 88, 1}, {1, 3, 2, 0}, {2, 4, 2, 0}, {5, 7, 2, 0},
            {6, 8, 2, 0}, {9, 11, 2, 0}, {10, 12, 2, 0}});
        pairRows("14 arms", Due.drawn(200, 0, comb(0, 14)), new int[][] {{1, 2, 101, 1}, {3, 5, 2, 0}, {4, 6, 2, 0}, {7, 9, 2, 0},
            {8, 10, 2, 0}, {11, 13, 2, 0}, {12, 14, 2, 0}});
        int[][] of15 = new int[8][];
        int[][] of16 = new int[8][];
        int[][] of24 = new int[12][];
        for (int i = 0; i < 12; i++) {
            if (i < 8) {
                of15[i] = new int[] {2 * i, 2 * i + 1, i == 0 ? 100 : 101, i == 1 ? 1 : 0};
                of16[i] = new int[] {2 * i + 1, 2 * i + 2, 101, i == 0 ? 1 : 0};
            }
            of24[i] = new int[] {2 * i + 1, 2 * i + 2, 101, i == 0 ? 1 : 0};
        }
        pairRows("15 arms", Due.drawn(200, 0, comb(0, 15)), of15);
        pairRows("16 arms", Due.drawn(200, 0, comb(0, 16)), of16);
        pairRows("24 arms", Due.drawn(200, 0, comb(0, 24)), of24);
        // 16 in all, but 8 in each part.
        pairRows("two parts", Due.drawn(200, 0, both(comb(0, 8), comb(100, 8))), new int[][] {{1, 3, 2, 1}, {2, 4, 2, 0}, {5, 7, 2, 0},
            {6, 8, 2, 0}, {10, 12, 2, 1}, {11, 13, 2, 0}, {14, 16, 2, 0}, {15, 17, 2, 0}});
        // 14 in one part, 4 in the other one, either first.
        int[] star = star(150, 50, 100, 0, 200, 0, 101, 0, 199, 0);
        int[][] fewer = {{1, 2, 101, 1}, {3, 5, 2, 0}, {4, 6, 2, 0}, {7, 9, 2, 0}, {8, 10, 2, 0}, {11, 13, 2, 0}, {12, 14, 2, 0},
            {16, 18, 1, 1}, {17, 19, 1, 0}};
        int[][] fewerFirst = {{1, 3, 1, 1}, {2, 4, 1, 0}, {6, 7, 101, 1}, {8, 10, 2, 0}, {9, 11, 2, 0}, {12, 14, 2, 0}, {13, 15, 2, 0},
            {16, 18, 2, 0}, {17, 19, 2, 0}};
        PenTrails unequal = Due.drawn(200, 0, both(comb(0, 14), star));
        pairRows("14 and 4", unequal, fewer);
        // The same object pairs others behind an act, and the same again behind that.
        unequal.drop(0);
        due.is("size(2) without an arm", unequal.size(2), 9);
        unequal.undo();
        pairRows("14 and 4 again", unequal, fewer);
        due.is("another sheet", Due.sheet(unequal, Due.text(200, 0, both(star, comb(0, 14)))), 18);
        pairRows("4 and 14", unequal, fewerFirst);
        // 16 in one part, 4 in the other one.
        PenTrails unlike = Due.drawn(200, 0, both(comb(0, 16), star(150, 50, 100, 0, 200, 0, 101, 0, 199, 0)));
        due.row("the part with 16", new int[] {unlike.pair(7, 0), unlike.pair(7, 1), unlike.part(0, 5)}, 15, 16, 8 * 101);
        due.row("the part with 4", new int[] {unlike.pair(8, 0), unlike.pair(8, 1), unlike.pair(9, 0), unlike.pair(9, 1),
            unlike.part(1, 5)}, 18, 20, 19, 21, 2);
    }

    private static void cuts() {
        due.says(0, "They are numbered, PART by PART, by their lesser MEETINGS.");
        pairRows("one pair within another", Due.drawn(200, 0, star(50, 50, 0, 0, 100, 0, 100, 1, 0, 1)), new int[][] {{1, 4, 1, 1}, {2, 3, 1, 0}});
        // Meetings 0, 1 and 4, 5 are of the first part, 2, 3 of the second.
        pairRows("parts by turns", Due.drawn(50, 0, 0, 0, 0, 10, 40, 0, 40, 10, 0, 0, 5, 0, 0, 0, 5, 1),
            new int[][] {{0, 1, 10, 1}, {4, 5, 1, 0}, {2, 3, 10, 1}});
        due.says(0, "CUT of a PART: the PAIR of the greatest TRAVEL, of several the first; all others are HOPS.");
        pairRows("the last", Due.drawn(200, 0, star(50, 50, 0, 0, 1, 0, 0, 100, 2, 100, 100, 100, 103, 100)),
            new int[][] {{1, 2, 1, 0}, {3, 4, 2, 0}, {5, 6, 3, 1}});
        pairRows("the middle", Due.drawn(200, 0, star(50, 50, 0, 0, 1, 0, 0, 100, 3, 100, 100, 100, 103, 100)),
            new int[][] {{1, 2, 1, 0}, {3, 4, 3, 1}, {5, 6, 3, 0}});
        pairRows("the first", Due.drawn(200, 0, star(50, 50, 0, 0, 3, 0, 0, 100, 2, 100, 100, 100, 103, 100)),
            new int[][] {{1, 2, 3, 1}, {3, 4, 2, 0}, {5, 6, 3, 0}});
    }

    private static void walk(String of, PenTrails x, int p, int... ways) {
        due.row("walk(" + p + ", _) of " + of, Due.walkOf(x, p), ways);
        due.is("walk(" + p + ", " + ways.length + ") of " + of, x, x.walk(p, ways.length), -2, 0);
    }

    private static void walkBegins() {
        due.says(0, "WALK of a PART: from the lesser MEETING of its CUT, or, without ODD ones, from its first MEETING,");
        walk("a cut that is not the first pair", Due.drawn(200, 0, star(50, 50, 0, 0, 1, 0, 0, 100, 100, 100)), 0, 5, 0, -3, 3, 6);
        walk("a cut that is the first pair", Due.drawn(200, 0, star(50, 50, 0, 0, 100, 0, 0, 100, 1, 100)), 0, 1, 4, -4, 7, 2);
        walk("a ring", Due.drawn(Due.TWO_RINGS), 0, 0, 6, 8, 10, 2, 4);
        PenTrails two = Due.drawn(50, 0, 20, 20, 30, 20, 0, 0, 5, 0, 5, 0, 0, 5, 0, 5, 0, 0);
        walk("one stroke", two, 0, 0);
        walk("a ring as the second part", two, 1, 2, 4, 6);
        walk("the second end of a stroke first", Due.drawn(50, 0, 5, 0, 0, 0, 5, 0, 9, 9), 0, 1, 2);
    }

    private static void walkGoesOn() {
        due.says(0, "it goes on, each time by the first way that wasn't gone yet from the MEETING where it is: STROKES, by numbers,"
            + " from either END (with both ENDS in that MEETING: from the first), then HOPS, by numbers, till there is none.");
        // By stroke 0 back to its first end, not by the other ways from there.
        walk("two ways between two", Due.drawn(9, 0, 5, 5, 0, 0, 0, 0, 5, 5, 5, 5, 9, 9), 0, 0, 2, 4);
        walk("the same ways, told otherwise", Due.drawn(9, 0, 0, 0, 5, 5, 0, 0, 5, 5, 5, 5, 9, 9), 0, 1, 2, 4);
        walk("three alike", Due.drawn(9, 0, 0, 0, 5, 5, 0, 0, 5, 5, 0, 0, 5, 5), 0, 0, 3, 4);
        walk("strokes in one meeting", Due.drawn(9, 2, 1, 0, 0, 0, 0, 1, 0, 0, 0, 0, 9, 9, 8, 9, 9, 9), 0, 0, 2, 4, 6);
        // Hop ahead of no stroke: from meeting 0 with three ends stroke 2 goes ahead of the hop.
        walk("strokes ahead of hops", Due.drawn(200, 0, star(50, 50, 0, 0, 0, 3, 60, 50)), 0, 0, -4, 3, 4);
        PenTrails hops = Due.drawn(200, 0, star(50, 50, 0, 0, 1, 0, 0, 100, 2, 100, 100, 100, 104, 100));
        walk("two hops", hops, 0, 9, 0, -3, 3, 4, -4, 7, 10);
        due.is("about(10)", hops.about(10), 3);
    }

    private static void rings() {
        due.says(0, "Then, as long as some way of the PART wasn't gone, at the first place of the WALK at whose MEETING one wasn't,"
            + " a RING goes on likewise from there, and is put in there (what came behind that place comes behind the RING).");
        int[] path = {0, 0, 10, 0, 10, 0, 20, 0};
        int[] ring = {10, 0, 10, 10, 10, 10, 20, 10, 20, 10, 10, 0};
        int[] within = {10, 10, 5, 20, 5, 20, 15, 20, 15, 20, 10, 10};
        walk("no ring", Due.drawn(50, 0, path), 0, 0, 2);
        walk("a ring in the middle", Due.drawn(50, 0, both(path, ring)), 0, 0, 4, 6, 8, 2);
        walk("a ring in a ring", Due.drawn(50, 0, both(path, both(ring, within))), 0, 0, 4, 10, 12, 14, 6, 8, 2);
        walk("a ring told first", Due.drawn(50, 0, both(ring, path)), 0, 6, 0, 2, 4, 8);
        walk("a ring at the first place", Due.drawn(9, 0, 0, 0, 4, 0, 0, 0, 0, 4, 0, 4, 4, 4, 4, 4, 0, 0), 0, 2, 4, 6, 0);
        // A ring at each of two places of the walk, that of the later place told first.
        walk("rings at two places", Due.drawn(50, 0, 0, 0, 10, 0, 10, 0, 20, 0, 20, 0, 30, 0, 20, 0, 20, 10, 20, 10, 25, 10, 25, 10, 20, 0,
            10, 0, 10, 10, 10, 10, 5, 10, 5, 10, 10, 0), 0, 0, 12, 14, 16, 2, 6, 8, 10, 4);
        // Two triangles at the same place: the walk goes on by the second one as long as it is there.
        walk("two rings at one place", Due.drawn(50, 0, both(path, both(ring, new int[] {10, 0, 10, 30, 10, 30, 20, 30, 20, 30, 10, 0}))),
            0, 0, 4, 6, 8, 10, 12, 14, 2);
        // The ring goes through (20, 0), which has a lesser way than (10, 0), but comes later in the walk.
        walk("one ring at two places", Due.drawn(50, 0, 0, 0, 10, 0, 10, 0, 20, 0, 20, 0, 30, 0, 20, 0, 15, 9, 15, 9, 10, 0, 10, 0, 15, 5,
            15, 5, 20, 0), 0, 0, 9, 7, 13, 11, 2, 4);
        // A hop in the ring: from (0, 0) by 1, the hop from meeting 2 to 3, and back by 2.
        PenTrails hop = Due.drawn(200, 0, 0, 0, 30, 0, 0, 0, 0, 100, 0, 0, 1, 100);
        walk("a ring with a hop", hop, 0, 2, -4, 5, 0);
        due.row("its trails", new int[] {hop.about(10), hop.trail(0, 1), hop.trail(0, 2), hop.trail(0, 3), hop.trail(1, 1), hop.trail(1, 2),
            hop.trail(1, 3)}, 2, 1, 0, 2, 2, 3, 1);
        // Loops of one meeting in a ring, from their first ends.
        walk("loops in a ring", Due.drawn(50, 1, 0, 0, 10, 0, 10, 0, 20, 0, 11, 0, 10, 0, 10, 1, 10, 0), 0, 0, 4, 6, 2);
    }

    private static void abouts() {
        due.says(6, "0 SIZE, 1 JOIN, 2 STROKES, 3, 4 X, Y of HOME, 5 DOWN, 6 UP, 7 MEETINGS, 8 PARTS, 9 ODD MEETINGS, 10 TRAILS.");
        PenTrails x = Due.drawn(Due.SQUARE_AND_ARMS + ";home 7 8;pace 2 3");
        due.row("about(_)", new int[] {x.about(0), x.about(1), x.about(2), x.about(3), x.about(4), x.about(5), x.about(6), x.about(7),
            x.about(8), x.about(9), x.about(10)}, 20, 1, 7, 7, 8, 2, 3, 8, 2, 4, 3);
        PenTrails none = Due.drawn("sheet size 200 join 50;home 200 199;pace 9 8");
        due.row("about(_) of none", new int[] {none.about(0), none.about(1), none.about(2), none.about(3), none.about(4), none.about(5),
            none.about(6), none.about(7), none.about(8), none.about(9), none.about(10)}, 200, 50, 0, 200, 199, 9, 8, 0, 0, 0, 0);
        due.says(6, "NONE: 1 (what, too).");
        for (int what : new int[] {Due.MIN, -1, 11, Due.MAX}) {
            due.is("about(" + what + ")", x, x.about(what), -1, 1);
        }
        due.is("about(0)", x, x.about(0), 20, 0);
        due.is("about(10)", x, x.about(10), 3, 0);
        PenTrails no = new PenTrails();
        due.is("about(0) without a drawing", no, no.about(0), -1, 1);
    }

    private static void strokes() {
        due.says(7, "Of a STROKE 0, 1 X, Y of its first END, 2, 3 of the other one, 4 LENGTH, 5, 6 MEETINGS of its ENDS.");
        PenTrails x = Due.drawn(50, 0, 3, 4, 10, 20, 10, 20, 0, 50);
        int[][] of = {{3, 4, 10, 20, 23, 0, 1}, {10, 20, 0, 50, 40, 1, 2}};
        for (int s = 0; s < 2; s++) {
            for (int what = 0; what <= 6; what++) {
                due.is("stroke(" + s + ", " + what + ")", x, x.stroke(s, what), of[s][what], 0);
            }
        }
        due.says(7, "NONE: 1 (what, too).");
        for (int bad : new int[] {Due.MIN, -1, 2, 24, Due.MAX}) {
            due.is("stroke(" + bad + ", 0)", x, x.stroke(bad, 0), -1, 1);
        }
        for (int bad : new int[] {Due.MIN, -1, 7, Due.MAX}) {
            due.is("stroke(1, " + bad + ")", x, x.stroke(1, bad), -1, 1);
        }
        PenTrails full = Due.drawn(Due.FULL);
        due.is("stroke(23, 2)", full, full.stroke(23, 2), 1, 0);
        due.is("stroke(24, 2)", full, full.stroke(24, 2), -1, 1);
        PenTrails no = new PenTrails();
        due.is("stroke(0, 0) without a drawing", no, no.stroke(0, 0), -1, 1);
    }

    private static void meetingsTold() {
        due.says(8, "Of a MEETING 0 X, 1 Y, 2 how many ENDS, 3 its PART, 4 its first END.");
        PenTrails x = Due.drawn(50, 0, 3, 4, 10, 20, 40, 41, 42, 43, 10, 20, 0, 50);
        int[][] of = {{3, 4, 1, 0, 0}, {10, 20, 2, 0, 1}, {40, 41, 1, 1, 2}, {42, 43, 1, 1, 3}, {0, 50, 1, 0, 5}};
        for (int m = 0; m < 5; m++) {
            for (int what = 0; what <= 4; what++) {
                due.is("meeting(" + m + ", " + what + ")", x, x.meeting(m, what), of[m][what], 0);
            }
        }
        PenTrails full = Due.drawn("sheet size 200 join 50" + ";stroke 0 0 1 1".repeat(24));
        due.is("meeting(0, 2) of all ends", full.meeting(0, 2), 48);
        due.says(8, "NONE: 1 (what, too).");
        for (int bad : new int[] {Due.MIN, -1, 5, 48, Due.MAX}) {
            due.is("meeting(" + bad + ", 0)", x, x.meeting(bad, 0), -1, 1);
            due.is("meeting(4, " + bad + ")", x, x.meeting(4, bad), -1, 1);
        }
        PenTrails no = new PenTrails();
        due.is("meeting(0, 0) without a drawing", no, no.meeting(0, 0), -1, 1);
    }

    private static void partsTold() {
        due.says(9, "Of a PART 0 MEETINGS, 1 STROKES, 2 ODD ones, 3 TRAILS, 4 its first MEETING, 5 TRAVEL of its PAIRS together.");
        PenTrails x = Due.drawn(Due.SQUARE_AND_ARMS);
        int[][] of = {{4, 4, 0, 1, 0, 0}, {4, 3, 4, 2, 4, 14}};
        for (int p = 0; p < 2; p++) {
            for (int what = 0; what <= 5; what++) {
                due.is("part(" + p + ", " + what + ")", x, x.part(p, what), of[p][what], 0);
            }
        }
        // Two odd ones make one trail, as none at all does; four make two.
        PenTrails one = Due.drawn(9, 0, 5, 5, 6, 6);
        due.row("part(0, _) of one stroke", new int[] {one.part(0, 0), one.part(0, 1), one.part(0, 2), one.part(0, 3), one.part(0, 5)}, 2, 1, 2, 1, 2);
        due.says(9, "NONE: 1 (what, too).");
        for (int bad : new int[] {Due.MIN, -1, 2, Due.MAX}) {
            due.is("part(" + bad + ", 0)", x, x.part(bad, 0), -1, 1);
        }
        for (int bad : new int[] {Due.MIN, -1, 6, Due.MAX}) {
            due.is("part(1, " + bad + ")", x, x.part(1, bad), -1, 1);
        }
        PenTrails no = new PenTrails();
        due.is("part(0, 0) without a drawing", no, no.part(0, 0), -1, 1);
    }

    private static void pairsTold() {
        due.says(10, "Of the i-th PAIR 0, 1 its MEETINGS, the lesser first, 2 TRAVEL, 3 1 if it is the CUT, 0.");
        PenTrails x = Due.drawn(Due.SQUARE_AND_ARMS);
        int[][] of = {{4, 5, 4, 0}, {6, 7, 10, 1}};
        for (int i = 0; i < 2; i++) {
            for (int what = 0; what <= 3; what++) {
                due.is("pair(" + i + ", " + what + ")", x, x.pair(i, what), of[i][what], 0);
            }
        }
        due.says(10, "NONE: 1 (i, what).");
        for (int bad : new int[] {Due.MIN, -1, 2, 24, Due.MAX}) {
            due.is("pair(" + bad + ", 0)", x, x.pair(bad, 0), -1, 1);
        }
        for (int bad : new int[] {Due.MIN, -1, 4, Due.MAX}) {
            due.is("pair(1, " + bad + ")", x, x.pair(1, bad), -1, 1);
        }
        PenTrails ring = Due.drawn(Due.TWO_RINGS);
        due.is("pair(0, 0) of rings", ring, ring.pair(0, 0), -1, 1);
        PenTrails no = new PenTrails();
        due.is("pair(0, 0) without a drawing", no, no.pair(0, 0), -1, 1);
    }

    private static void walksTold() {
        due.says(11, "The k-th way of the WALK of a PART: a STROKE, twice its number, and 1 if it is gone from its second END;"
            + " a HOP: -3 less its PAIR's number; -2 behind the last one.");
        PenTrails x = Due.drawn(Due.SQUARE_AND_ARMS);
        walk("the square", x, 0, 0, 2, 4, 6);
        // The hop is pair 0, 4 to 5; the cut from 6 to 7 is pair 1.
        walk("the arms", x, 1, 11, 9, -3, 12);
        due.is("walk(0, 3)", x, x.walk(0, 3), 6, 0);
        for (int k : new int[] {4, 5, 48, 49, Due.MAX}) {
            due.is("walk(0, " + k + ")", x, x.walk(0, k), -2, 0);
            due.is("walk(1, " + k + ")", x, x.walk(1, k), -2, 0);
        }
        PenTrails far = Due.drawn(200, 0, comb(0, 24));
        int hops = 0;
        int strokes = 0;
        for (int k = 0; k < 35; k++) {
            hops += far.walk(0, k) <= -3 ? 1 : 0;
            strokes += far.walk(0, k) >= 0 ? 1 : 0;
        }
        due.row("ways of 24 arms", new int[] {strokes, hops, far.walk(0, 34) >= 0 ? 1 : 0, far.walk(0, 35)}, 24, 11, 1, -2);
        due.says(11, "NONE: 1 (PART, k below 0).");
        for (int bad : new int[] {Due.MIN, -1, 2, Due.MAX}) {
            due.is("walk(" + bad + ", 0)", x, x.walk(bad, 0), -1, 1);
        }
        due.is("walk(0, -1)", x, x.walk(0, -1), -1, 1);
        due.is("walk(0, MIN)", x, x.walk(0, Due.MIN), -1, 1);
        due.is("walk(0, 0)", x, x.walk(0, 0), 0, 0);
        PenTrails no = new PenTrails();
        due.is("walk(0, 0) without a drawing", no, no.walk(0, 0), -1, 1);
    }

    public static void main(String[] args) {
        ends();
        meetings();
        numbers();
        parts();
        odd();
        leastPairs();
        pairsOnALine();
        manyPairs();
        cuts();
        walkBegins();
        walkGoesOn();
        rings();
        abouts();
        strokes();
        meetingsTold();
        partsTold();
        pairsTold();
        walksTold();
        due.end();
    }
}
