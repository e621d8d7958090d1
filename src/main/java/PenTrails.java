import java.util.NoSuchElementException;

/** Strokes of a drawing, and a plan of trails by which a pen goes over each of them once. */
public final class PenTrails {
    public static final int NONE = -1;

    private static final int MOST_STROKES = 24;
    private static final int MOST_ENDS = 2 * MOST_STROKES;
    private static final int MOST_JOIN = 50;

    /** A power of 2 above half of MOST_JOIN, so that it and its halves reach each JOIN. */
    private static final int FIRST_STEP = 32;

    private static final int MOST_PACE = 9;
    private static final int MOST_TIME = 99999;

    /** What walk(), longest(), farthest(), worst() and enough() answer where there is nothing. */
    private static final int NOTHING = -2;

    private static final int NOT_REFUSED = 0;
    private static final int NO_SUCH = 1;
    private static final int NUMBER = 2;
    private static final int NO_ROOM = 3;
    private static final int FAULTY = 4;
    private static final int NOT_SO = 5;

    private final Tape tape = new Tape();
    private final Drawing drawing = new Drawing();
    private final Meetings meetings = new Meetings(drawing);
    private final Pairing pairing = new Pairing(meetings);
    private final Walks walks = new Walks(drawing, meetings, pairing);
    private final Trails trails = new Trails(drawing, meetings, walks);
    private final Plan plan = new Plan(drawing, meetings, trails);
    private final History history = new History(drawing, meetings, trails);

    // What is tried beside the drawing and its plan, and then left.
    private final Drawing otherDrawing = new Drawing();
    private final Meetings otherMeetings = new Meetings(otherDrawing);
    private final Plan otherPlan = new Plan(drawing, meetings, trails);
    private final Reader reader = new Reader(tape, otherDrawing);

    private boolean drawn = false;
    private int trouble = NOT_REFUSED;

    public PenTrails() {
    }

    // ---- the drawing

    public int feed(int a, int b, int c, int d, int e) {
        if (!tape.hasRoom()) {
            return NONE;
        }
        tape.put(a);
        tape.put(b);
        tape.put(c);
        tape.put(d);
        tape.put(e);
        return tape.length;
    }

    public int sheet(int n) {
        if (n < 0 || n > tape.length) {
            return refused(NUMBER);
        }
        boolean whole = reader.reads(n);
        tape.length = 0;
        if (!whole) {
            return refused(FAULTY);
        }
        drawing.copy(otherDrawing);
        drawn = true;
        history.clear();
        startPlan();
        return told(drawing.strokes);
    }

    public int fault() {
        return reader.fault;
    }

    public int where() {
        return trouble == FAULTY ? reader.place : NONE;
    }

    public int about(int what) {
        if (!drawn) {
            return refused(NO_SUCH);
        }
        switch (what) {
            case 0: return told(drawing.size);
            case 1: return told(drawing.join);
            case 2: return told(drawing.strokes);
            case 3: return told(drawing.homeX);
            case 4: return told(drawing.homeY);
            case 5: return told(drawing.down);
            case 6: return told(drawing.up);
            case 7: return told(meetings.count());
            case 8: return told(meetings.parts());
            case 9: return told(meetings.odds());
            case 10: return told(trails.count);
            default: return refused(NO_SUCH);
        }
    }

    public int stroke(int s, int what) {
        if (!hasStroke(s)) {
            return refused(NO_SUCH);
        }
        switch (what) {
            case 0: return told(drawing.x[2 * s]);
            case 1: return told(drawing.y[2 * s]);
            case 2: return told(drawing.x[2 * s + 1]);
            case 3: return told(drawing.y[2 * s + 1]);
            case 4: return told(drawing.strokeLength(s));
            case 5: return told(meetings.of(2 * s));
            case 6: return told(meetings.of(2 * s + 1));
            default: return refused(NO_SUCH);
        }
    }

    public int meeting(int m, int what) {
        if (!drawn || m < 0 || m >= meetings.count()) {
            return refused(NO_SUCH);
        }
        switch (what) {
            case 0: return told(meetings.xOf(m));
            case 1: return told(meetings.yOf(m));
            case 2: return told(meetings.endsIn[m]);
            case 3: return told(meetings.partOf(m));
            case 4: return told(meetings.firstEnd(m));
            default: return refused(NO_SUCH);
        }
    }

    public int part(int p, int what) {
        if (!hasPart(p)) {
            return refused(NO_SUCH);
        }
        switch (what) {
            case 0: return told(meetings.meetingsIn(p));
            case 1: return told(meetings.strokesIn(p));
            case 2: return told(meetings.oddIn[p]);
            case 3: return told(meetings.trailsIn(p));
            case 4: return told(meetings.firstMeeting(p));
            case 5: return told(pairing.gapsIn(p));
            default: return refused(NO_SUCH);
        }
    }

    public int pair(int i, int what) {
        if (!drawn || i < 0 || i >= pairing.count) {
            return refused(NO_SUCH);
        }
        switch (what) {
            case 0: return told(pairing.low[i]);
            case 1: return told(pairing.high[i]);
            case 2: return told(pairing.gap[i]);
            case 3: return told(pairing.isCut[i] ? 1 : 0);
            default: return refused(NO_SUCH);
        }
    }

    public int walk(int p, int k) {
        if (!hasPart(p) || k < 0) {
            return refused(NO_SUCH);
        }
        if (k >= walks.waysIn(p)) {
            return told(NOTHING);
        }
        return told(walks.wayOf(p, k));
    }

    // ---- the plan

    public int trail(int i, int what) {
        if (!hasPlace(i)) {
            return refused(NO_SUCH);
        }
        int t = plan.trailAt(i);
        switch (what) {
            case 0: return told(trails.part[t]);
            case 1: return told(trails.strokes[t]);
            case 2: return told(plan.beginOf(i));
            case 3: return told(plan.endOf(i));
            case 4: return told(trails.length[t]);
            case 5: return told(plan.isBackwards(i) ? 1 : 0);
            case 6: return told(t);
            default: return refused(NO_SUCH);
        }
    }

    public int ride(int i, int k) {
        if (!hasPlace(i) || k < 0 || k >= trails.strokes[plan.trailAt(i)]) {
            return refused(NO_SUCH);
        }
        return told(plan.strokeAt(i, k));
    }

    public int travel() {
        return drawn ? told(plan.wholeTravel()) : refused(NO_SUCH);
    }

    public int started() {
        if (!drawn) {
            return refused(NO_SUCH);
        }
        otherPlan.start();
        return told(otherPlan.wholeTravel());
    }

    public int better(int what) {
        if (!drawn || what < 0 || what > 1) {
            return refused(NO_SUCH);
        }
        otherPlan.copy(plan);
        int exchanges = otherPlan.makeBetter();
        return told(what == 0 ? otherPlan.wholeTravel() : exchanges);
    }

    public int exchanged(int i, int k) {
        if (!hasPlace(i) || !hasPlace(k) || i > k) {
            refused(NO_SUCH);
            return Integer.MIN_VALUE;
        }
        return told(plan.changeBy(i, k));
    }

    public int floor() {
        return drawn ? told(trails.leastTree()) : refused(NO_SUCH);
    }

    public int time() {
        return drawn ? told(plan.wholeTime()) : refused(NO_SUCH);
    }

    public int pen(int t, int what) {
        if (!drawn || what < 0 || what > 2) {
            return refused(NO_SUCH);
        }
        if (t < 0 || t > MOST_TIME) {
            return refused(NUMBER);
        }
        return told(plan.penAt(t, what));
    }

    public int longest() {
        return drawn ? told(plan.longestPlace()) : refused(NO_SUCH);
    }

    public int farthest() {
        return drawn ? told(plan.farthestLeg()) : refused(NO_SUCH);
    }

    public int lifts() {
        return drawn ? told(plan.liftsBetween()) : refused(NO_SUCH);
    }

    public int rides(int s) {
        return hasStroke(s) ? told(plan.placeOf(trails.trailOf[s])) : refused(NO_SUCH);
    }

    // ---- what would be

    public int would(int x, int y, int u, int v) {
        int why = whyNoStroke(x, y, u, v);
        if (why != NOT_REFUSED) {
            refused(why);
            return Integer.MIN_VALUE;
        }
        otherDrawing.copy(drawing);
        otherDrawing.putStroke(x, y, u, v);
        return told(trailsOfOther(drawing.join) - trails.count);
    }

    public int worst() {
        if (!drawn) {
            return refused(NO_SUCH);
        }
        int worst = NOTHING;
        int fewest = 0;
        for (int s = 0; s < drawing.strokes; s++) {
            otherDrawing.copy(drawing);
            otherDrawing.removeStroke(s);
            int left = trailsOfOther(drawing.join);
            if (worst == NOTHING || left < fewest) {
                worst = s;
                fewest = left;
            }
        }
        return told(worst);
    }

    public int nearest() {
        if (!drawn) {
            return refused(NO_SUCH);
        }
        otherDrawing.copy(drawing);
        return told(leastJoinFor(trailsOfOther(MOST_JOIN)));
    }

    public int enough(int n) {
        if (!drawn) {
            return refused(NO_SUCH);
        }
        if (n < 1 || n > MOST_STROKES) {
            return refused(NUMBER);
        }
        otherDrawing.copy(drawing);
        int least = leastJoinFor(n);
        return told(least > MOST_JOIN ? NOTHING : least);
    }

    // ---- acts

    public int add(int x, int y, int u, int v) {
        int why = whyNoStroke(x, y, u, v);
        if (why != NOT_REFUSED) {
            return refused(why);
        }
        history.keep(drawing, plan);
        drawing.putStroke(x, y, u, v);
        startPlan();
        return told(drawing.strokes);
    }

    public int drop(int s) {
        if (!hasStroke(s)) {
            return refused(NO_SUCH);
        }
        history.keep(drawing, plan);
        drawing.removeStroke(s);
        startPlan();
        return told(drawing.strokes);
    }

    public int home(int x, int y) {
        if (!drawn) {
            return refused(NO_SUCH);
        }
        if (!drawing.hasPoint(x, y)) {
            return refused(NUMBER);
        }
        history.keep(drawing, plan);
        drawing.homeX = x;
        drawing.homeY = y;
        return told(plan.wholeTravel());
    }

    public int join(int v) {
        if (!drawn) {
            return refused(NO_SUCH);
        }
        if (v < 0 || v > MOST_JOIN) {
            return refused(NUMBER);
        }
        history.keep(drawing, plan);
        // The same JOIN once more is an act too, but the PLAN stays.
        if (v != drawing.join) {
            drawing.join = v;
            startPlan();
        }
        return told(trails.count);
    }

    public int pace(int down, int up) {
        if (!drawn) {
            return refused(NO_SUCH);
        }
        if (!isPace(down) || !isPace(up)) {
            return refused(NUMBER);
        }
        history.keep(drawing, plan);
        drawing.down = down;
        drawing.up = up;
        return told(plan.wholeTime());
    }

    public int exchange(int i, int k) {
        if (!hasPlace(i) || !hasPlace(k)) {
            return refused(NO_SUCH);
        }
        if (i > k) {
            return refused(NUMBER);
        }
        history.keep(drawing, plan);
        plan.turnRun(i, k);
        return told(plan.wholeTravel());
    }

    public int improve() {
        if (!drawn) {
            return refused(NO_SUCH);
        }
        otherPlan.copy(plan);
        if (otherPlan.makeBetter() == 0) {
            return refused(NOT_SO);
        }
        history.keep(drawing, plan);
        plan.copy(otherPlan);
        return told(plan.wholeTravel());
    }

    public boolean undo() {
        if (history.kept == 0) {
            refused(NO_SUCH);
            return false;
        }
        history.takeBack(drawing, otherPlan);
        startPlan();
        plan.copy(otherPlan);
        told(0);
        return true;
    }

    // ---- what is told

    public int loose(int i) throws NoSuchElementException {
        int m = drawn ? meetings.looseOne(i) : NONE;
        if (m == NONE) {
            throw new NoSuchElementException("no such loose meeting");
        }
        return m;
    }

    public int size(int what) {
        switch (what) {
            case 0: return tape.length;
            case 1: return history.kept;
            case 2: return drawn ? pairing.count : 0;
            default: return NONE;
        }
    }

    public int trouble() {
        return trouble;
    }

    // ---- what the calls have in common

    private int told(int answer) {
        trouble = NOT_REFUSED;
        return answer;
    }

    private int refused(int why) {
        trouble = why;
        return NONE;
    }

    private boolean hasStroke(int s) {
        return drawn && s >= 0 && s < drawing.strokes;
    }

    private boolean hasPart(int p) {
        return drawn && p >= 0 && p < meetings.parts();
    }

    private boolean hasPlace(int i) {
        return drawn && i >= 0 && i < plan.count;
    }

    private boolean isPace(int pace) {
        return pace >= 1 && pace <= MOST_PACE;
    }

    private int whyNoStroke(int x, int y, int u, int v) {
        if (!drawn) {
            return NO_SUCH;
        }
        if (!drawing.hasPoint(x, y) || !drawing.hasPoint(u, v) || x == u && y == v) {
            return NUMBER;
        }
        return drawing.strokes < MOST_STROKES ? NOT_REFUSED : NO_ROOM;
    }

    private int trailsOfOther(int join) {
        otherMeetings.gather(join);
        return otherMeetings.trailsInAll();
    }

    /** Where more ends meet, there are never more trails: so steps that become less find the last JOIN that won't do. */
    private int leastJoinFor(int mostTrails) {
        int tooLittle = -1;
        for (int step = FIRST_STEP; step > 0; step /= 2) {
            int v = tooLittle + step;
            if (v <= MOST_JOIN && trailsOfOther(v) > mostTrails) {
                tooLittle = v;
            }
        }
        return tooLittle + 1;
    }

    private void startPlan() {
        meetings.gather(drawing.join);
        pairing.gather();
        walks.gather();
        trails.gather();
        plan.start();
    }

    /** THE TAPE, and the TOKENS of its first bytes, one after another. */
    private static final class Tape {
        static final int END = 0;
        static final int WORD = 1;
        static final int WHOLE = 2;
        static final int SEMICOLON = 3;
        static final int BROKEN = 4;

        private static final int ROOM = 700;
        private static final int FED_AT_ONCE = 20;
        private static final int LONGEST_WORD = 6;
        private static final int LONGEST_WHOLE = 3;

        private final int[] bytes = new int[ROOM];
        int length = 0;

        private int limit = 0;
        private int next = 0;

        // The token at which the tape is read.
        int kind = END;
        int start = 0;
        int value = 0;

        boolean hasRoom() {
            return length <= ROOM - FED_AT_ONCE;
        }

        void put(int number) {
            for (int shift = 24; shift >= 0 && length < ROOM; shift -= 8) {
                bytes[length] = (number >> shift) & 255;
                length++;
            }
        }

        void rewind(int n) {
            limit = Math.min(n, length);
            next = 0;
        }

        /** Goes on to the next token; one that is too long begins none, as a sign that is none. */
        void step() {
            while (next < limit && bytes[next] == ' ') {
                next++;
            }
            start = next;
            value = 0;
            kind = next < limit ? kindOf(bytes[next]) : END;
            if (kind == SEMICOLON) {
                next++;
            }
            while (next < limit && (kind == WORD || kind == WHOLE) && kindOf(bytes[next]) == kind) {
                value = value * 10 + bytes[next] - '0';
                next++;
            }
            if (kind == WORD && next - start > LONGEST_WORD || kind == WHOLE && next - start > LONGEST_WHOLE) {
                kind = BROKEN;
            }
        }

        private static int kindOf(int sign) {
            if (sign >= 'a' && sign <= 'z') {
                return WORD;
            }
            if (sign >= '0' && sign <= '9') {
                return WHOLE;
            }
            return sign == ';' ? SEMICOLON : BROKEN;
        }

        boolean isWord(String word) {
            if (kind != WORD || next - start != word.length()) {
                return false;
            }
            for (int i = 0; i < word.length(); i++) {
                if (bytes[start + i] != word.charAt(i)) {
                    return false;
                }
            }
            return true;
        }
    }

    /** Reads the text of a drawing up to its end or its first fault. */
    private static final class Reader {
        private static final int FORM = 1;
        private static final int BOUNDS = 2;
        private static final int DOT = 3;
        private static final int AGAIN = 4;
        private static final int MANY = 5;
        private static final int LACKS = 6;
        private static final int MOST_SIZE = 200;

        private final Tape tape;
        private final Drawing into;
        private boolean hasSheet = false;
        private boolean hasHome = false;
        private boolean hasPace = false;
        int fault = 0;
        int place = NONE;

        Reader(Tape tape, Drawing into) {
            this.tape = tape;
            this.into = into;
        }

        boolean reads(int n) {
            begin(n);
            // Each line takes a byte at least, so that more than n lines never come.
            for (int lines = 0; lines <= n; lines++) {
                if (!readsLine()) {
                    return false;
                }
                tape.step();
                if (tape.kind == Tape.END) {
                    return true;
                }
                if (tape.kind != Tape.SEMICOLON) {
                    return fails(FORM);
                }
            }
            return fails(FORM);
        }

        private void begin(int n) {
            tape.rewind(n);
            into.clear();
            hasSheet = false;
            hasHome = false;
            hasPace = false;
            fault = 0;
            place = NONE;
        }

        private boolean fails(int number) {
            fault = number;
            place = tape.start;
            return false;
        }

        private boolean readsLine() {
            tape.step();
            if (tape.isWord("sheet")) {
                return readsSheet();
            }
            if (!tape.isWord("stroke") && !tape.isWord("home") && !tape.isWord("pace")) {
                return fails(FORM);
            }
            if (!hasSheet) {
                return fails(LACKS);
            }
            if (tape.isWord("stroke")) {
                return readsStroke();
            }
            return tape.isWord("home") ? readsHome() : readsPace();
        }

        private boolean readsSheet() {
            if (hasSheet) {
                return fails(AGAIN);
            }
            hasSheet = true;
            if (!readsWord("size") || !readsWhole(1, MOST_SIZE)) {
                return false;
            }
            into.size = tape.value;
            if (!readsWord("join") || !readsWhole(0, MOST_JOIN)) {
                return false;
            }
            into.join = tape.value;
            return true;
        }

        private boolean readsStroke() {
            if (into.strokes >= MOST_STROKES) {
                return fails(MANY);
            }
            if (!readsWhole(0, into.size)) {
                return false;
            }
            int x = tape.value;
            if (!readsWhole(0, into.size)) {
                return false;
            }
            int y = tape.value;
            if (!readsWhole(0, into.size)) {
                return false;
            }
            int u = tape.value;
            if (!readsWhole(0, into.size)) {
                return false;
            }
            int v = tape.value;
            if (x == u && y == v) {
                return fails(DOT);
            }
            into.putStroke(x, y, u, v);
            return true;
        }

        private boolean readsHome() {
            if (hasHome) {
                return fails(AGAIN);
            }
            hasHome = true;
            if (!readsWhole(0, into.size)) {
                return false;
            }
            into.homeX = tape.value;
            if (!readsWhole(0, into.size)) {
                return false;
            }
            into.homeY = tape.value;
            return true;
        }

        private boolean readsPace() {
            if (hasPace) {
                return fails(AGAIN);
            }
            hasPace = true;
            if (!readsWhole(1, MOST_PACE)) {
                return false;
            }
            into.down = tape.value;
            if (!readsWhole(1, MOST_PACE)) {
                return false;
            }
            into.up = tape.value;
            return true;
        }

        private boolean readsWord(String word) {
            tape.step();
            return tape.isWord(word) || fails(FORM);
        }

        private boolean readsWhole(int least, int most) {
            tape.step();
            if (tape.kind != Tape.WHOLE) {
                return fails(FORM);
            }
            return tape.value >= least && tape.value <= most || fails(BOUNDS);
        }
    }

    /** What the text tells: the strokes by their ends, size, join, home and pace. */
    private static final class Drawing {
        final int[] x = new int[MOST_ENDS];
        final int[] y = new int[MOST_ENDS];
        int strokes = 0;
        int size = 0;
        int join = 0;
        int homeX = 0;
        int homeY = 0;
        int down = 1;
        int up = 1;

        void clear() {
            strokes = 0;
            size = 0;
            join = 0;
            homeX = 0;
            homeY = 0;
            down = 1;
            up = 1;
        }

        void copy(Drawing from) {
            strokes = from.strokes;
            size = from.size;
            join = from.join;
            homeX = from.homeX;
            homeY = from.homeY;
            down = from.down;
            up = from.up;
            for (int end = 0; end < 2 * strokes; end++) {
                x[end] = from.x[end];
                y[end] = from.y[end];
            }
        }

        boolean hasPoint(int px, int py) {
            return px >= 0 && px <= size && py >= 0 && py <= size;
        }

        void putStroke(int fromX, int fromY, int toX, int toY) {
            if (strokes >= MOST_STROKES) {
                return;
            }
            x[2 * strokes] = fromX;
            y[2 * strokes] = fromY;
            x[2 * strokes + 1] = toX;
            y[2 * strokes + 1] = toY;
            strokes++;
        }

        void removeStroke(int s) {
            if (s < 0 || s >= strokes) {
                return;
            }
            strokes--;
            for (int end = 2 * s; end < 2 * strokes; end++) {
                x[end] = x[end + 2];
                y[end] = y[end + 2];
            }
        }

        int endsApart(int a, int b) {
            return Math.abs(x[a] - x[b]) + Math.abs(y[a] - y[b]);
        }

        int strokeLength(int s) {
            return endsApart(2 * s, 2 * s + 1);
        }

        int allLengths() {
            int sum = 0;
            for (int s = 0; s < strokes; s++) {
                sum += strokeLength(s);
            }
            return sum;
        }
    }

    /** Members put together to groups, which are numbered by their least members. */
    private static final class Groups {
        final int[] number = new int[MOST_ENDS];
        final int[] first = new int[MOST_ENDS];
        int count = 0;
        private final int[] head = new int[MOST_ENDS];
        private int members = 0;

        void begin(int n) {
            members = Math.min(n, MOST_ENDS);
            for (int i = 0; i < members; i++) {
                head[i] = i;
            }
        }

        void tie(int a, int b) {
            int low = Math.min(head[a], head[b]);
            int high = Math.max(head[a], head[b]);
            if (low == high) {
                return;
            }
            for (int i = high; i < members; i++) {
                if (head[i] == high) {
                    head[i] = low;
                }
            }
        }

        void numberAll() {
            count = 0;
            for (int i = 0; i < members; i++) {
                if (head[i] == i) {
                    first[count] = i;
                    number[i] = count;
                    count++;
                } else {
                    number[i] = number[head[i]];
                }
            }
        }
    }

    /** MEETINGS of the ends of a drawing, and PARTS of those meetings. */
    private static final class Meetings {
        /** Stands for HOME where a meeting is asked for. */
        static final int HOME = -1;

        private final Drawing drawing;
        private final Groups ends = new Groups();
        private final Groups knots = new Groups();
        private final int[] pointX = new int[MOST_ENDS];
        private final int[] pointY = new int[MOST_ENDS];
        final int[] endsIn = new int[MOST_ENDS];
        final int[] oddIn = new int[MOST_ENDS];

        Meetings(Drawing drawing) {
            this.drawing = drawing;
        }

        void gather(int join) {
            gatherEnds(join);
            gatherParts();
            countEnds();
            countOdds();
        }

        private void gatherEnds(int join) {
            int all = 2 * drawing.strokes;
            ends.begin(all);
            for (int a = 0; a < all; a++) {
                tieNearTo(a, all, join);
            }
            ends.numberAll();
            for (int m = 0; m < ends.count; m++) {
                pointX[m] = drawing.x[ends.first[m]];
                pointY[m] = drawing.y[ends.first[m]];
            }
        }

        private void tieNearTo(int a, int all, int join) {
            int x = drawing.x[a];
            int y = drawing.y[a];
            for (int b = a + 1; b < all; b++) {
                if (Math.abs(drawing.x[b] - x) + Math.abs(drawing.y[b] - y) <= join) {
                    ends.tie(a, b);
                }
            }
        }

        private void gatherParts() {
            knots.begin(ends.count);
            for (int s = 0; s < drawing.strokes; s++) {
                knots.tie(of(2 * s), of(2 * s + 1));
            }
            knots.numberAll();
        }

        private void countEnds() {
            for (int m = 0; m < ends.count; m++) {
                endsIn[m] = 0;
            }
            for (int end = 0; end < 2 * drawing.strokes; end++) {
                endsIn[of(end)]++;
            }
        }

        private void countOdds() {
            for (int p = 0; p < knots.count; p++) {
                oddIn[p] = 0;
            }
            for (int m = 0; m < ends.count; m++) {
                if (isOdd(m)) {
                    oddIn[partOf(m)]++;
                }
            }
        }

        int count() {
            return ends.count;
        }

        int parts() {
            return knots.count;
        }

        int of(int end) {
            return ends.number[end];
        }

        int firstEnd(int m) {
            return ends.first[m];
        }

        int partOf(int m) {
            return knots.number[m];
        }

        int firstMeeting(int p) {
            return knots.first[p];
        }

        boolean isOdd(int m) {
            return endsIn[m] % 2 == 1;
        }

        int xOf(int m) {
            return m == HOME ? drawing.homeX : pointX[m];
        }

        int yOf(int m) {
            return m == HOME ? drawing.homeY : pointY[m];
        }

        int apart(int a, int b) {
            return Math.abs(xOf(a) - xOf(b)) + Math.abs(yOf(a) - yOf(b));
        }

        int meetingsIn(int p) {
            int some = 0;
            for (int m = 0; m < ends.count; m++) {
                if (partOf(m) == p) {
                    some++;
                }
            }
            return some;
        }

        int strokesIn(int p) {
            int some = 0;
            for (int s = 0; s < drawing.strokes; s++) {
                if (partOf(of(2 * s)) == p) {
                    some++;
                }
            }
            return some;
        }

        int odds() {
            int some = 0;
            for (int p = 0; p < knots.count; p++) {
                some += oddIn[p];
            }
            return some;
        }

        /** A trail begins and ends at each two odd meetings; without them one goes round. */
        int trailsIn(int p) {
            return Math.max(1, oddIn[p] / 2);
        }

        int trailsInAll() {
            int some = 0;
            for (int p = 0; p < knots.count; p++) {
                some += trailsIn(p);
            }
            return some;
        }

        int looseOne(int i) {
            int before = 0;
            for (int m = 0; m < ends.count; m++) {
                if (endsIn[m] == 1) {
                    if (before == i) {
                        return m;
                    }
                    before++;
                }
            }
            return NONE;
        }
    }

    /** PAIRS of the odd meetings, part by part, and the CUT of each part. */
    private static final class Pairing {
        private static final int MOST_MATCHED = 14;

        /** So many sets come up with 14, as the first one free is always the next to be paired. */
        private static final int MOST_SETS = 610;

        /** All but the empty set have the first one in them and are even, so that two bits need no place. */
        private static final int SLOTS = 1 << MOST_MATCHED - 2;

        private final Meetings meetings;
        final int[] low = new int[MOST_STROKES];
        final int[] high = new int[MOST_STROKES];
        final int[] gap = new int[MOST_STROKES];
        final boolean[] isCut = new boolean[MOST_STROKES];
        private final int[] firstOf = new int[MOST_STROKES + 1];
        int count = 0;

        // The odd meetings of the part that is being paired, and how far they are apart.
        private final int[] odd = new int[MOST_ENDS];
        private int odds = 0;
        private final int[] oddApart = new int[MOST_MATCHED * MOST_MATCHED];

        // Sets of odd meetings that have partners, as bits, at places from 1 on: smaller ones first;
        // by place the least travel that pairs all others; and by slot the set's place, 0 for none.
        private final int[] sets = new int[MOST_SETS + 1];
        private int setCount = 0;
        private final int[] least = new int[MOST_SETS + 1];
        private final int[] placeOf = new int[SLOTS];
        private int bestSum = 0;

        Pairing(Meetings meetings) {
            this.meetings = meetings;
        }

        void gather() {
            count = 0;
            for (int p = 0; p < meetings.parts(); p++) {
                firstOf[p] = count;
                listOdds(p);
                if (odds > MOST_MATCHED) {
                    pairNeighbours();
                } else {
                    pairByLeast();
                }
                firstOf[p + 1] = count;
                markCut(p);
            }
        }

        int firstIn(int p) {
            return firstOf[p];
        }

        int behindLastIn(int p) {
            return firstOf[p + 1];
        }

        int cutOf(int p) {
            for (int i = firstOf[p]; i < firstOf[p + 1]; i++) {
                if (isCut[i]) {
                    return i;
                }
            }
            return NONE;
        }

        int gapsIn(int p) {
            int sum = 0;
            for (int i = firstOf[p]; i < firstOf[p + 1]; i++) {
                sum += gap[i];
            }
            return sum;
        }

        private void listOdds(int p) {
            odds = 0;
            for (int m = 0; m < meetings.count(); m++) {
                if (meetings.partOf(m) == p && meetings.isOdd(m)) {
                    odd[odds] = m;
                    odds++;
                }
            }
        }

        private void markCut(int p) {
            int cut = NONE;
            for (int i = firstOf[p]; i < firstOf[p + 1]; i++) {
                isCut[i] = false;
                if (cut == NONE || gap[i] > gap[cut]) {
                    cut = i;
                }
            }
            if (cut != NONE) {
                isCut[cut] = true;
            }
        }

        private void putPair(int a, int b) {
            if (count >= MOST_STROKES) {
                return;
            }
            low[count] = odd[a];
            high[count] = odd[b];
            gap[count] = meetings.apart(odd[a], odd[b]);
            count++;
        }

        private void pairNeighbours() {
            for (int i = 0; i + 1 < odds; i += 2) {
                putPair(i, i + 1);
            }
        }

        private void pairByLeast() {
            measureOdds();
            listSets();
            fillLeast();
            int paired = 0;
            for (int i = 0; i + 1 < odds; i += 2) {
                int a = firstFree(paired);
                int b = bestPartner(paired, a);
                putPair(a, b);
                paired |= 1 << a | 1 << b;
            }
            clearSets();
        }

        private void measureOdds() {
            for (int a = 0; a < odds; a++) {
                for (int b = 0; b < odds; b++) {
                    oddApart[a * MOST_MATCHED + b] = meetings.apart(odd[a], odd[b]);
                }
            }
        }

        private int firstFree(int paired) {
            int a = 0;
            while (a < odds - 1 && (paired >> a & 1) == 1) {
                a++;
            }
            return a;
        }

        private void listSets() {
            sets[1] = 0;
            setCount = 1;
            for (int i = 1; i <= setCount && i <= MOST_SETS; i++) {
                int paired = sets[i];
                int a = firstFree(paired);
                for (int b = a + 1; b < odds; b++) {
                    if ((paired >> b & 1) == 0) {
                        putSet(paired | 1 << a | 1 << b);
                    }
                }
            }
        }

        private void putSet(int paired) {
            int slot = slotOf(paired);
            if (placeOf[slot] != 0 || setCount >= MOST_SETS) {
                return;
            }
            setCount++;
            sets[setCount] = paired;
            placeOf[slot] = setCount;
        }

        private static int slotOf(int paired) {
            return paired >> 1 & SLOTS - 1;
        }

        private void clearSets() {
            for (int i = 1; i <= setCount; i++) {
                placeOf[slotOf(sets[i])] = 0;
            }
        }

        /** The last set is that of all, which leaves none to be paired. */
        private void fillLeast() {
            least[setCount] = 0;
            for (int i = setCount - 1; i >= 1; i--) {
                bestPartner(sets[i], firstFree(sets[i]));
                least[i] = bestSum;
            }
        }

        /** The first of the partners with which all that are free go least; bestSum is how far that is. */
        private int bestPartner(int paired, int a) {
            int best = a;
            bestSum = 0;
            for (int b = a + 1; b < odds; b++) {
                if ((paired >> b & 1) == 0) {
                    int place = placeOf[slotOf(paired | 1 << a | 1 << b)];
                    int sum = oddApart[a * MOST_MATCHED + b] + least[place];
                    if (best == a || sum < bestSum) {
                        best = b;
                        bestSum = sum;
                    }
                }
            }
            return best;
        }
    }

    /** WALKS of the parts: rows of ways, each a stroke from one of its ends, or a hop. */
    private static final class Walks {
        /** All strokes, and a hop for all pairs at the most. */
        private static final int MOST_WAYS = 2 * MOST_STROKES;
        private static final int FIRST_HOP = -3;

        private final Drawing drawing;
        private final Meetings meetings;
        private final Pairing pairing;
        private final int[] ways = new int[MOST_WAYS];
        private final int[] firstOf = new int[MOST_STROKES + 1];

        // The walk that is being made, and the ring that is to be put into it; the spots
        // are the meetings ahead of the ways, and one more behind the last.
        private final int[] walk = new int[MOST_WAYS];
        private final int[] walkSpots = new int[MOST_WAYS + 1];
        private int walkLength = 0;
        private final int[] ring = new int[MOST_WAYS];
        private final int[] ringSpots = new int[MOST_WAYS + 1];
        private int ringLength = 0;
        private final boolean[] strokeGone = new boolean[MOST_STROKES];
        private final boolean[] hopGone = new boolean[MOST_STROKES];

        Walks(Drawing drawing, Meetings meetings, Pairing pairing) {
            this.drawing = drawing;
            this.meetings = meetings;
            this.pairing = pairing;
        }

        static boolean isHop(int way) {
            return way <= FIRST_HOP;
        }

        int waysIn(int p) {
            return firstOf[p + 1] - firstOf[p];
        }

        int wayOf(int p, int k) {
            return ways[firstOf[p] + k];
        }

        void gather() {
            for (int i = 0; i < MOST_STROKES; i++) {
                strokeGone[i] = false;
                // A cut is no way at all.
                hopGone[i] = i < pairing.count && pairing.isCut[i];
            }
            firstOf[0] = 0;
            for (int p = 0; p < meetings.parts(); p++) {
                makeWalk(p);
                firstOf[p + 1] = firstOf[p] + walkLength;
                for (int k = 0; k < walkLength; k++) {
                    ways[firstOf[p] + k] = walk[k];
                }
            }
        }

        private void makeWalk(int p) {
            int cut = pairing.cutOf(p);
            walkLength = 0;
            walkSpots[0] = cut == NONE ? meetings.firstMeeting(p) : pairing.low[cut];
            int place = 0;
            for (int rings = 0; rings <= MOST_WAYS && place != NONE; rings++) {
                makeRing(p, walkSpots[place]);
                putRing(place);
                place = firstOpenPlace(p);
            }
        }

        private int firstOpenPlace(int p) {
            for (int place = 0; place <= walkLength; place++) {
                if (firstWayFrom(p, walkSpots[place]) != NONE) {
                    return place;
                }
            }
            return NONE;
        }

        /** The first walk of a part is a ring as well, but that its ends may differ. */
        private void makeRing(int p, int from) {
            ringLength = 0;
            ringSpots[0] = from;
            for (int k = 0; k + walkLength < MOST_WAYS; k++) {
                int way = firstWayFrom(p, ringSpots[k]);
                if (way == NONE) {
                    return;
                }
                ring[k] = way;
                ringSpots[k + 1] = goneBy(way, ringSpots[k]);
                ringLength = k + 1;
            }
        }

        private int firstWayFrom(int p, int m) {
            for (int s = 0; s < drawing.strokes; s++) {
                if (!strokeGone[s] && meetings.of(2 * s) == m) {
                    return 2 * s;
                }
                if (!strokeGone[s] && meetings.of(2 * s + 1) == m) {
                    return 2 * s + 1;
                }
            }
            for (int i = pairing.firstIn(p); i < pairing.behindLastIn(p); i++) {
                if (!hopGone[i] && (pairing.low[i] == m || pairing.high[i] == m)) {
                    return FIRST_HOP - i;
                }
            }
            return NONE;
        }

        /** Goes a way from a meeting: the meeting to which it comes. */
        private int goneBy(int way, int from) {
            if (isHop(way)) {
                int i = FIRST_HOP - way;
                hopGone[i] = true;
                return pairing.low[i] == from ? pairing.high[i] : pairing.low[i];
            }
            strokeGone[way / 2] = true;
            // A way is told by the number of the end from which it goes.
            return meetings.of(way ^ 1);
        }

        private void putRing(int place) {
            for (int k = walkLength - 1; k >= place; k--) {
                walk[k + ringLength] = walk[k];
                walkSpots[k + 1 + ringLength] = walkSpots[k + 1];
            }
            for (int k = 0; k < ringLength; k++) {
                walk[place + k] = ring[k];
                walkSpots[place + k + 1] = ringSpots[k + 1];
            }
            walkLength += ringLength;
        }
    }

    /** TRAILS as they come from the walks, numbered by their places at first. */
    private static final class Trails {
        private final Drawing drawing;
        private final Meetings meetings;
        private final Walks walks;
        final int[] part = new int[MOST_STROKES];
        final int[] strokes = new int[MOST_STROKES];
        final int[] begin = new int[MOST_STROKES];
        final int[] end = new int[MOST_STROKES];
        final int[] length = new int[MOST_STROKES];
        final int[] trailOf = new int[MOST_STROKES];
        int count = 0;

        /** The strokes of all trails, one behind the other, as ways. */
        private final int[] rows = new int[MOST_STROKES];
        private final int[] firstOf = new int[MOST_STROKES];
        private int filled = 0;

        // For the tree: how near each trail is to what is joined already.
        private final int[] near = new int[MOST_STROKES];
        private final boolean[] joined = new boolean[MOST_STROKES];

        Trails(Drawing drawing, Meetings meetings, Walks walks) {
            this.drawing = drawing;
            this.meetings = meetings;
            this.walks = walks;
        }

        int strokeOf(int t, int k) {
            return rows[firstOf[t] + k];
        }

        void gather() {
            count = 0;
            filled = 0;
            for (int p = 0; p < meetings.parts(); p++) {
                boolean goesOn = false;
                for (int k = 0; k < walks.waysIn(p); k++) {
                    int way = walks.wayOf(p, k);
                    if (Walks.isHop(way)) {
                        goesOn = false;
                    } else {
                        if (!goesOn) {
                            open(p, way);
                        }
                        putStroke(way);
                        goesOn = true;
                    }
                }
            }
        }

        private void open(int p, int way) {
            if (count >= MOST_STROKES) {
                return;
            }
            part[count] = p;
            strokes[count] = 0;
            length[count] = 0;
            begin[count] = meetings.of(way);
            firstOf[count] = filled;
            count++;
        }

        private void putStroke(int way) {
            if (count < 1 || filled >= MOST_STROKES) {
                return;
            }
            int t = count - 1;
            strokes[t]++;
            length[t] += drawing.strokeLength(way / 2);
            end[t] = meetings.of(way ^ 1);
            trailOf[way / 2] = t;
            rows[filled] = way;
            filled++;
        }

        /** FLOOR: each time the trail that is nearest to the tree is joined to it. */
        int leastTree() {
            for (int t = 0; t < count; t++) {
                near[t] = Math.min(meetings.apart(Meetings.HOME, begin[t]),
                        meetings.apart(Meetings.HOME, end[t]));
                joined[t] = false;
            }
            int sum = 0;
            for (int n = 0; n < count; n++) {
                int next = nearestTrail();
                if (next != NONE) {
                    sum += near[next];
                    joined[next] = true;
                    comeNear(next);
                }
            }
            return sum;
        }

        private int nearestTrail() {
            int nearest = NONE;
            for (int t = 0; t < count; t++) {
                if (!joined[t] && (nearest == NONE || near[t] < near[nearest])) {
                    nearest = t;
                }
            }
            return nearest;
        }

        private void comeNear(int to) {
            for (int t = 0; t < count; t++) {
                near[t] = Math.min(near[t], branch(to, t));
            }
        }

        private int branch(int a, int b) {
            int fromBegin = Math.min(meetings.apart(begin[a], begin[b]), meetings.apart(begin[a], end[b]));
            int fromEnd = Math.min(meetings.apart(end[a], begin[b]), meetings.apart(end[a], end[b]));
            return Math.min(fromBegin, fromEnd);
        }
    }

    /** A PLAN: trails in a row, each forwards or backwards. */
    private static final class Plan {
        private static final int MOST_EXCHANGES = 200;

        private final Drawing drawing;
        private final Meetings meetings;
        private final Trails trails;

        /** By place: twice the trail's number, and 1 if it goes backwards. */
        private final int[] placed = new int[MOST_STROKES];
        int count = 0;

        Plan(Drawing drawing, Meetings meetings, Trails trails) {
            this.drawing = drawing;
            this.meetings = meetings;
            this.trails = trails;
        }

        void start() {
            count = trails.count;
            for (int i = 0; i < count; i++) {
                placed[i] = 2 * i;
            }
        }

        void copy(Plan from) {
            count = from.count;
            for (int i = 0; i < count; i++) {
                placed[i] = from.placed[i];
            }
        }

        int trailAt(int i) {
            return placed[i] / 2;
        }

        boolean isBackwards(int i) {
            return placed[i] % 2 == 1;
        }

        int beginOf(int i) {
            return isBackwards(i) ? trails.end[trailAt(i)] : trails.begin[trailAt(i)];
        }

        int endOf(int i) {
            return isBackwards(i) ? trails.begin[trailAt(i)] : trails.end[trailAt(i)];
        }

        int strokeAt(int i, int k) {
            int t = trailAt(i);
            if (isBackwards(i)) {
                return trails.strokeOf(t, trails.strokes[t] - 1 - k) ^ 1;
            }
            return trails.strokeOf(t, k);
        }

        int placeOf(int t) {
            for (int i = 0; i < count; i++) {
                if (trailAt(i) == t) {
                    return i;
                }
            }
            return NONE;
        }

        private int spotAhead(int i) {
            return i > 0 ? endOf(i - 1) : Meetings.HOME;
        }

        private int spotBehind(int i) {
            return i < count - 1 ? beginOf(i + 1) : Meetings.HOME;
        }

        /** How far the pen goes while it is up, ahead of a place; the last leg goes home. */
        private int leg(int i) {
            return meetings.apart(spotAhead(i), spotBehind(i - 1));
        }

        int wholeTravel() {
            if (count == 0) {
                return 0;
            }
            int sum = 0;
            for (int i = 0; i <= count; i++) {
                sum += leg(i);
            }
            return sum;
        }

        int wholeTime() {
            return drawing.down * drawing.allLengths() + drawing.up * wholeTravel();
        }

        /** Within the run nothing changes but the direction, so that two legs tell all. */
        int changeBy(int i, int k) {
            int ahead = spotAhead(i);
            int behind = spotBehind(k);
            int now = meetings.apart(ahead, beginOf(i)) + meetings.apart(endOf(k), behind);
            int then = meetings.apart(ahead, endOf(k)) + meetings.apart(beginOf(i), behind);
            return then - now;
        }

        void turnRun(int i, int k) {
            int a = i;
            int b = k;
            while (a <= b) {
                int turned = placed[a] ^ 1;
                placed[a] = placed[b] ^ 1;
                placed[b] = turned;
                a++;
                b--;
            }
        }

        /** BETTER: how many exchanges it takes. */
        int makeBetter() {
            for (int done = 0; done < MOST_EXCHANGES; done++) {
                if (!turnsFirstThatWins()) {
                    return done;
                }
            }
            return MOST_EXCHANGES;
        }

        private boolean turnsFirstThatWins() {
            for (int i = 0; i < count; i++) {
                for (int k = i; k < count; k++) {
                    if (changeBy(i, k) < 0) {
                        turnRun(i, k);
                        return true;
                    }
                }
            }
            return false;
        }

        int penAt(int t, int what) {
            int clock = 0;
            int through = 0;
            for (int i = 0; i < count; i++) {
                clock += drawing.up * leg(i);
                if (t < clock) {
                    return ofPen(what, through, 0, i);
                }
                for (int k = 0; k < trails.strokes[trailAt(i)]; k++) {
                    clock += drawing.down * drawing.strokeLength(strokeAt(i, k) / 2);
                    if (t < clock) {
                        return ofPen(what, through, 1, i);
                    }
                    through++;
                }
            }
            return ofPen(what, through, 0, count);
        }

        private static int ofPen(int what, int strokes, int down, int trails) {
            if (what == 0) {
                return strokes;
            }
            return what == 1 ? down : trails;
        }

        int longestPlace() {
            int longest = NOTHING;
            int most = 0;
            for (int i = 0; i < count; i++) {
                int length = trails.length[trailAt(i)];
                if (longest == NOTHING || length > most) {
                    longest = i;
                    most = length;
                }
            }
            return longest;
        }

        int farthestLeg() {
            if (count == 0) {
                return NOTHING;
            }
            int farthest = 0;
            for (int i = 1; i <= count; i++) {
                if (leg(i) > leg(farthest)) {
                    farthest = i;
                }
            }
            return farthest;
        }

        int liftsBetween() {
            int some = 0;
            for (int i = 1; i < count; i++) {
                if (leg(i) > 0) {
                    some++;
                }
            }
            return some;
        }
    }

    /** What there was ahead of the latest acts, to be taken back. */
    private static final class History {
        private static final int MOST_KEPT = 10;

        private final Drawing[] drawings = new Drawing[MOST_KEPT];
        private final Plan[] plans = new Plan[MOST_KEPT];
        private int newest = 0;
        int kept = 0;

        History(Drawing drawing, Meetings meetings, Trails trails) {
            for (int i = 0; i < MOST_KEPT; i++) {
                drawings[i] = new Drawing();
                plans[i] = new Plan(drawing, meetings, trails);
            }
        }

        void clear() {
            kept = 0;
        }

        /** The row goes round: what is kept last takes the room of the oldest. */
        void keep(Drawing drawing, Plan plan) {
            newest = (newest + 1) % MOST_KEPT;
            drawings[newest].copy(drawing);
            plans[newest].copy(plan);
            kept = Math.min(kept + 1, MOST_KEPT);
        }

        void takeBack(Drawing drawing, Plan plan) {
            if (kept == 0) {
                return;
            }
            drawing.copy(drawings[newest]);
            plan.copy(plans[newest]);
            newest = (newest + MOST_KEPT - 1) % MOST_KEPT;
            kept--;
        }
    }
}
