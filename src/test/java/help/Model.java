import java.util.ArrayDeque;
import java.util.ArrayList;
import java.util.Arrays;
import java.util.Collections;
import java.util.Deque;
import java.util.List;
import java.util.NoSuchElementException;
import java.util.TreeSet;
import java.util.regex.Matcher;
import java.util.regex.Pattern;

/**
 * The document once more, in the slowest and plainest way that its words allow and with the
 * whole library at hand, so that what it answers can be held against what PenTrails answers.
 */
final class Model {
    static final int NONE = -1;
    static final int WORST = Integer.MIN_VALUE;

    /** What acts change: copied whole ahead of each act. */
    static final class State {
        int size;
        int join;
        int homeX;
        int homeY;
        int down = 1;
        int up = 1;
        List<int[]> strokes = new ArrayList<>();
        List<int[]> plan = new ArrayList<>();

        State copy() {
            State c = new State();
            c.size = size;
            c.join = join;
            c.homeX = homeX;
            c.homeY = homeY;
            c.down = down;
            c.up = up;
            c.strokes = new ArrayList<>(strokes);
            c.plan = new ArrayList<>(plan);
            return c;
        }
    }

    /** All that follows from strokes and JOIN. */
    static final class Shape {
        final State of;
        final int[] meetingOf;
        final List<TreeSet<Integer>> meetings = new ArrayList<>();
        final List<TreeSet<Integer>> parts = new ArrayList<>();
        final List<int[]> pairs = new ArrayList<>(); // lesser, greater, travel, part, cut
        final List<List<Integer>> walks = new ArrayList<>();
        final List<List<Integer>> trails = new ArrayList<>();

        private final int mostMatched;

        Shape(State of) {
            this(of, 14);
        }

        /** How many trails there are doesn't hang on who is whose partner, so that less will do. */
        static int trailsOf(State of) {
            return new Shape(of, 6).trails.size();
        }

        private Shape(State of, int mostMatched) {
            this.of = of;
            this.mostMatched = mostMatched;
            meetingOf = new int[2 * of.strokes.size()];
            findMeetings();
            findParts();
            for (int p = 0; p < parts.size(); p++) {
                findPairs(p);
            }
            for (int p = 0; p < parts.size(); p++) {
                walks.add(walk(p));
                cut(walks.get(p));
            }
        }

        int[] point(int end) {
            int[] s = of.strokes.get(end / 2);
            return end % 2 == 0 ? new int[] {s[0], s[1]} : new int[] {s[2], s[3]};
        }

        int[] spot(int m) {
            return point(meetings.get(m).first());
        }

        void findMeetings() {
            TreeSet<Integer> left = new TreeSet<>();
            for (int e = 0; e < meetingOf.length; e++) {
                left.add(e);
            }
            while (!left.isEmpty()) {
                TreeSet<Integer> group = new TreeSet<>();
                Deque<Integer> open = new ArrayDeque<>();
                open.add(left.pollFirst());
                while (!open.isEmpty()) {
                    int e = open.poll();
                    group.add(e);
                    for (int f : new ArrayList<>(left)) {
                        if (gap(point(e), point(f)) <= of.join) {
                            left.remove(f);
                            open.add(f);
                        }
                    }
                }
                for (int e : group) {
                    meetingOf[e] = meetings.size();
                }
                meetings.add(group);
            }
        }

        void findParts() {
            TreeSet<Integer> left = new TreeSet<>();
            for (int m = 0; m < meetings.size(); m++) {
                left.add(m);
            }
            while (!left.isEmpty()) {
                TreeSet<Integer> group = new TreeSet<>();
                Deque<Integer> open = new ArrayDeque<>();
                open.add(left.pollFirst());
                while (!open.isEmpty()) {
                    int m = open.poll();
                    group.add(m);
                    for (int e : meetings.get(m)) {
                        int n = meetingOf[e % 2 == 0 ? e + 1 : e - 1];
                        if (left.remove(n)) {
                            open.add(n);
                        }
                    }
                }
                parts.add(group);
            }
        }

        int partOf(int m) {
            for (int p = 0; p < parts.size(); p++) {
                if (parts.get(p).contains(m)) {
                    return p;
                }
            }
            throw new IllegalStateException("no part");
        }

        List<Integer> odd(int p) {
            List<Integer> odd = new ArrayList<>();
            for (int m : parts.get(p)) {
                if (meetings.get(m).size() % 2 != 0) {
                    odd.add(m);
                }
            }
            return odd;
        }

        private List<int[]> best;
        private int bestSum;

        void tryAll(List<Integer> left, List<int[]> chosen, int sum) {
            if (left.isEmpty()) {
                // Ways come in the order of the document, so only a truly lesser one wins.
                if (best == null || sum < bestSum) {
                    best = new ArrayList<>(chosen);
                    bestSum = sum;
                }
                return;
            }
            int a = left.get(0);
            for (int j = 1; j < left.size(); j++) {
                int b = left.get(j);
                List<Integer> others = new ArrayList<>(left);
                others.remove(j);
                others.remove(0);
                chosen.add(new int[] {a, b});
                tryAll(others, chosen, sum + gap(spot(a), spot(b)));
                chosen.remove(chosen.size() - 1);
            }
        }

        void findPairs(int p) {
            List<Integer> odd = odd(p);
            best = null;
            if (odd.size() > mostMatched) {
                best = new ArrayList<>();
                for (int i = 0; i < odd.size(); i += 2) {
                    best.add(new int[] {odd.get(i), odd.get(i + 1)});
                }
            } else {
                tryAll(odd, new ArrayList<>(), 0);
            }
            int[] cut = null;
            for (int[] ab : best) {
                int[] pair = {ab[0], ab[1], gap(spot(ab[0]), spot(ab[1])), p, 0};
                pairs.add(pair);
                if (cut == null || pair[2] > cut[2]) {
                    cut = pair;
                }
            }
            if (cut != null) {
                cut[4] = 1;
            }
        }

        int[] cutOf(int p) {
            for (int[] pair : pairs) {
                if (pair[3] == p && pair[4] == 1) {
                    return pair;
                }
            }
            return null;
        }

        /** Ways as {code, meeting ahead, meeting behind}. */
        int[] nextWay(int m, TreeSet<Integer> gone) {
            for (int s = 0; s < of.strokes.size(); s++) {
                for (int e = 2 * s; e <= 2 * s + 1; e++) {
                    if (!gone.contains(s) && meetingOf[e] == m) {
                        return new int[] {e, m, meetingOf[e ^ 1]};
                    }
                }
            }
            for (int i = 0; i < pairs.size(); i++) {
                int[] q = pairs.get(i);
                if (q[4] == 0 && !gone.contains(-3 - i) && (q[0] == m || q[1] == m)) {
                    return new int[] {-3 - i, m, q[0] + q[1] - m};
                }
            }
            return null;
        }

        List<int[]> ring(int m, TreeSet<Integer> gone) {
            List<int[]> ring = new ArrayList<>();
            for (int[] way = nextWay(m, gone); way != null; way = nextWay(way[2], gone)) {
                ring.add(way);
                gone.add(way[0] >= 0 ? way[0] / 2 : way[0]);
            }
            return ring;
        }

        List<Integer> walk(int p) {
            TreeSet<Integer> gone = new TreeSet<>();
            int[] cut = cutOf(p);
            List<int[]> walk = ring(cut == null ? parts.get(p).first() : cut[0], gone);
            for (int k = 0; k < walk.size(); ) {
                List<int[]> more = ring(walk.get(k)[1], gone);
                if (more.isEmpty()) {
                    k++;
                } else {
                    walk.addAll(k, more);
                    k = 0;
                }
            }
            List<Integer> codes = new ArrayList<>();
            for (int[] way : walk) {
                codes.add(way[0]);
            }
            return codes;
        }

        void cut(List<Integer> walk) {
            List<Integer> trail = new ArrayList<>();
            for (int way : walk) {
                if (way >= 0) {
                    trail.add(way);
                } else {
                    trails.add(trail);
                    trail = new ArrayList<>();
                }
            }
            trails.add(trail);
        }
    }

    final List<Integer> tape = new ArrayList<>();
    final Deque<State> past = new ArrayDeque<>();
    State state;
    Shape shape;
    int trouble;
    int fault;
    int place;

    static int gap(int[] a, int[] b) {
        return Math.abs(a[0] - b[0]) + Math.abs(a[1] - b[1]);
    }

    int no(int why) {
        trouble = why;
        return NONE;
    }

    int worst(int why) {
        trouble = why;
        return WORST;
    }

    int yes(int answer) {
        trouble = 0;
        return answer;
    }

    // ---- the text

    static final class Fault extends RuntimeException {
        private static final long serialVersionUID = 1L;
        final int number;
        final int place;

        Fault(int number, int place) {
            this.number = number;
            this.place = place;
        }
    }

    private String text;
    private Matcher tokens;
    private int at;

    String next() {
        if (tokens.find()) {
            at = tokens.start();
            String token = tokens.group();
            return token.matches("[a-z]{1,6}|[0-9]{1,3}|;") ? token : "?";
        }
        at = text.length();
        return "";
    }

    int whole(int least, int most) {
        String token = next();
        if (!token.matches("[0-9]+")) {
            throw new Fault(1, at);
        }
        int value = Integer.parseInt(token);
        if (value < least || value > most) {
            throw new Fault(2, at);
        }
        return value;
    }

    void word(String word) {
        if (!next().equals(word)) {
            throw new Fault(1, at);
        }
    }

    State read() {
        tokens = Pattern.compile("[a-z]+|[0-9]+|[^ ]", Pattern.DOTALL).matcher(text);
        State s = new State();
        List<String> seen = new ArrayList<>();
        String behind;
        do {
            String word = next();
            if (!Arrays.asList("sheet", "stroke", "home", "pace").contains(word)) {
                throw new Fault(1, at);
            }
            if (!word.equals("stroke") && seen.contains(word)) {
                throw new Fault(4, at);
            }
            if (word.equals("stroke") && Collections.frequency(seen, word) == 24) {
                throw new Fault(5, at);
            }
            if (!word.equals("sheet") && !seen.contains("sheet")) {
                throw new Fault(6, at);
            }
            seen.add(word);
            line(word, s);
            behind = next();
            if (!behind.isEmpty() && !behind.equals(";")) {
                throw new Fault(1, at);
            }
        } while (behind.equals(";"));
        return s;
    }

    void line(String word, State s) {
        switch (word) {
            case "sheet":
                word("size");
                s.size = whole(1, 200);
                word("join");
                s.join = whole(0, 50);
                break;
            case "home":
                s.homeX = whole(0, s.size);
                s.homeY = whole(0, s.size);
                break;
            case "pace":
                s.down = whole(1, 9);
                s.up = whole(1, 9);
                break;
            default:
                int[] e = new int[4];
                for (int i = 0; i < 4; i++) {
                    e[i] = whole(0, s.size);
                }
                if (e[0] == e[2] && e[1] == e[3]) {
                    throw new Fault(3, at);
                }
                s.strokes.add(e);
        }
    }

    int feed(int... five) {
        if (tape.size() + 20 > 700) {
            return NONE;
        }
        for (int v : five) {
            for (int b = 3; b >= 0; b--) {
                tape.add(v >>> 8 * b & 255);
            }
        }
        return tape.size();
    }

    int sheet(int n) {
        if (n < 0 || n > tape.size()) {
            return no(2);
        }
        StringBuilder first = new StringBuilder();
        for (int b : tape.subList(0, n)) {
            first.append((char) b);
        }
        text = first.toString();
        tape.clear();
        State s;
        try {
            s = read();
        } catch (Fault f) {
            fault = f.number;
            place = f.place;
            return no(4);
        }
        fault = 0;
        state = s;
        past.clear();
        reshape(true);
        return yes(s.strokes.size());
    }

    void reshape(boolean anew) {
        shape = new Shape(state);
        if (anew) {
            state.plan = atFirst();
        }
    }

    List<int[]> atFirst() {
        List<int[]> plan = new ArrayList<>();
        for (int t = 0; t < shape.trails.size(); t++) {
            plan.add(new int[] {t, 0});
        }
        return plan;
    }

    int where() {
        return trouble == 4 ? place : NONE;
    }

    int about(int what) {
        if (state == null || what < 0 || what > 10) {
            return no(1);
        }
        int odd = 0;
        for (TreeSet<Integer> m : shape.meetings) {
            odd += m.size() % 2;
        }
        return yes(new int[] {state.size, state.join, state.strokes.size(), state.homeX, state.homeY,
            state.down, state.up, shape.meetings.size(), shape.parts.size(), odd, shape.trails.size()}[what]);
    }

    int length(int s) {
        return gap(shape.point(2 * s), shape.point(2 * s + 1));
    }

    int stroke(int s, int what) {
        if (state == null || s < 0 || s >= state.strokes.size() || what < 0 || what > 6) {
            return no(1);
        }
        int[] e = state.strokes.get(s);
        return yes(new int[] {e[0], e[1], e[2], e[3], length(s), shape.meetingOf[2 * s],
            shape.meetingOf[2 * s + 1]}[what]);
    }

    int meeting(int m, int what) {
        if (state == null || m < 0 || m >= shape.meetings.size() || what < 0 || what > 4) {
            return no(1);
        }
        TreeSet<Integer> ends = shape.meetings.get(m);
        return yes(new int[] {shape.spot(m)[0], shape.spot(m)[1], ends.size(), shape.partOf(m),
            ends.first()}[what]);
    }

    int part(int p, int what) {
        if (state == null || p < 0 || p >= shape.parts.size() || what < 0 || what > 5) {
            return no(1);
        }
        int ends = 0;
        for (int m : shape.parts.get(p)) {
            ends += shape.meetings.get(m).size();
        }
        int hops = 0;
        for (int way : shape.walks.get(p)) {
            hops += way < 0 ? 1 : 0;
        }
        int gaps = 0;
        for (int[] q : shape.pairs) {
            gaps += q[3] == p ? q[2] : 0;
        }
        return yes(new int[] {shape.parts.get(p).size(), ends / 2, shape.odd(p).size(), hops + 1,
            shape.parts.get(p).first(), gaps}[what]);
    }

    int pair(int i, int what) {
        if (state == null || i < 0 || i >= shape.pairs.size() || what < 0 || what > 3) {
            return no(1);
        }
        int[] q = shape.pairs.get(i);
        return yes(new int[] {q[0], q[1], q[2], q[4]}[what]);
    }

    int walk(int p, int k) {
        if (state == null || p < 0 || p >= shape.parts.size() || k < 0) {
            return no(1);
        }
        List<Integer> walk = shape.walks.get(p);
        return yes(k < walk.size() ? walk.get(k) : -2);
    }

    // ---- the plan

    List<Integer> gone(int[] placed) {
        List<Integer> row = new ArrayList<>(shape.trails.get(placed[0]));
        if (placed[1] == 1) {
            Collections.reverse(row);
            row.replaceAll(e -> e % 2 == 0 ? e + 1 : e - 1);
        }
        return row;
    }

    int beginOf(int[] placed) {
        return shape.meetingOf[gone(placed).get(0)];
    }

    int endOf(int[] placed) {
        List<Integer> row = gone(placed);
        return shape.meetingOf[row.get(row.size() - 1) ^ 1];
    }

    List<Integer> legs(List<int[]> plan) {
        List<Integer> legs = new ArrayList<>();
        int[] at = {state.homeX, state.homeY};
        for (int[] placed : plan) {
            legs.add(gap(at, shape.spot(beginOf(placed))));
            at = shape.spot(endOf(placed));
        }
        legs.add(gap(at, new int[] {state.homeX, state.homeY}));
        return legs;
    }

    int travelOf(List<int[]> plan) {
        int sum = 0;
        if (!plan.isEmpty()) {
            for (int leg : legs(plan)) {
                sum += leg;
            }
        }
        return sum;
    }

    List<int[]> turned(List<int[]> plan, int i, int k) {
        List<int[]> other = new ArrayList<>(plan.subList(0, i));
        for (int j = k; j >= i; j--) {
            other.add(new int[] {plan.get(j)[0], 1 - plan.get(j)[1]});
        }
        other.addAll(plan.subList(k + 1, plan.size()));
        return other;
    }

    List<int[]> firstLess(List<int[]> plan) {
        for (int i = 0; i < plan.size(); i++) {
            for (int k = i; k < plan.size(); k++) {
                List<int[]> other = turned(plan, i, k);
                if (travelOf(other) < travelOf(plan)) {
                    return other;
                }
            }
        }
        return null;
    }

    private List<int[]> bettered;

    int makeBetter() {
        bettered = state.plan;
        for (int n = 0; n < 200; n++) {
            List<int[]> other = firstLess(bettered);
            if (other == null) {
                return n;
            }
            bettered = other;
        }
        return 200;
    }

    boolean place(int i) {
        return state != null && i >= 0 && i < state.plan.size();
    }

    int lengthAt(int i) {
        int sum = 0;
        for (int e : gone(state.plan.get(i))) {
            sum += length(e / 2);
        }
        return sum;
    }

    int trail(int i, int what) {
        if (!place(i) || what < 0 || what > 6) {
            return no(1);
        }
        int[] placed = state.plan.get(i);
        int first = beginOf(placed);
        return yes(new int[] {shape.partOf(first), gone(placed).size(), first, endOf(placed), lengthAt(i),
            placed[1], placed[0]}[what]);
    }

    int ride(int i, int k) {
        if (!place(i) || k < 0 || k >= gone(state.plan.get(i)).size()) {
            return no(1);
        }
        return yes(gone(state.plan.get(i)).get(k));
    }

    int travel() {
        return state == null ? no(1) : yes(travelOf(state.plan));
    }

    int started() {
        return state == null ? no(1) : yes(travelOf(atFirst()));
    }

    int better(int what) {
        if (state == null || what < 0 || what > 1) {
            return no(1);
        }
        int n = makeBetter();
        return yes(what == 0 ? travelOf(bettered) : n);
    }

    int exchanged(int i, int k) {
        if (!place(i) || !place(k) || i > k) {
            return worst(1);
        }
        return yes(travelOf(turned(state.plan, i, k)) - travelOf(state.plan));
    }

    /** The branches from the least on, each taken if it joins what is not joined yet. */
    int floor() {
        if (state == null) {
            return no(1);
        }
        List<List<int[]>> knots = new ArrayList<>();
        knots.add(List.of(new int[] {state.homeX, state.homeY}));
        for (int[] placed : atFirst()) {
            knots.add(List.of(shape.spot(beginOf(placed)), shape.spot(endOf(placed))));
        }
        List<int[]> branches = new ArrayList<>();
        for (int a = 0; a < knots.size(); a++) {
            for (int b = 0; b < a; b++) {
                int least = Integer.MAX_VALUE;
                for (int[] p : knots.get(a)) {
                    for (int[] q : knots.get(b)) {
                        least = Math.min(least, gap(p, q));
                    }
                }
                branches.add(new int[] {least, a, b});
            }
        }
        branches.sort((p, q) -> p[0] - q[0]);
        int[] tree = new int[knots.size()];
        for (int i = 0; i < tree.length; i++) {
            tree[i] = i;
        }
        int sum = 0;
        for (int[] branch : branches) {
            int from = tree[branch[1]];
            int to = tree[branch[2]];
            if (from != to) {
                sum += branch[0];
                for (int i = 0; i < tree.length; i++) {
                    tree[i] = tree[i] == from ? to : tree[i];
                }
            }
        }
        return yes(sum);
    }

    int timeOf() {
        int sum = 0;
        for (int s = 0; s < state.strokes.size(); s++) {
            sum += length(s);
        }
        return state.down * sum + state.up * travelOf(state.plan);
    }

    int time() {
        return state == null ? no(1) : yes(timeOf());
    }

    int pen(int t, int what) {
        if (state == null || what < 0 || what > 2) {
            return no(1);
        }
        if (t < 0 || t > 99999) {
            return no(2);
        }
        int clock = 0;
        int strokes = 0;
        int down = 0;
        int trails = 0;
        List<Integer> legs = legs(state.plan);
        for (int i = 0; i < state.plan.size(); i++) {
            clock += state.up * legs.get(i);
            for (int e : gone(state.plan.get(i))) {
                int begun = clock;
                clock += state.down * length(e / 2);
                strokes += clock <= t ? 1 : 0;
                down += begun <= t && t < clock ? 1 : 0;
            }
            trails += clock <= t ? 1 : 0;
        }
        return yes(new int[] {strokes, down, trails}[what]);
    }

    int longest() {
        if (state == null) {
            return no(1);
        }
        int most = -1;
        int found = -2;
        for (int i = 0; i < state.plan.size(); i++) {
            if (lengthAt(i) > most) {
                most = lengthAt(i);
                found = i;
            }
        }
        return yes(found);
    }

    int farthest() {
        if (state == null) {
            return no(1);
        }
        List<Integer> legs = legs(state.plan);
        return yes(state.plan.isEmpty() ? -2 : legs.indexOf(Collections.max(legs)));
    }

    int lifts() {
        if (state == null) {
            return no(1);
        }
        int n = 0;
        List<Integer> legs = legs(state.plan);
        for (int i = 1; i < state.plan.size(); i++) {
            n += legs.get(i) > 0 ? 1 : 0;
        }
        return yes(n);
    }

    int rides(int s) {
        if (state != null && s >= 0 && s < state.strokes.size()) {
            for (int i = 0; i < state.plan.size(); i++) {
                for (int e : gone(state.plan.get(i))) {
                    if (e / 2 == s) {
                        return yes(i);
                    }
                }
            }
        }
        return no(1);
    }

    // ---- what would be

    boolean point(int x, int y) {
        return x >= 0 && x <= state.size && y >= 0 && y <= state.size;
    }

    int whyNot(int x, int y, int u, int v) {
        if (state == null) {
            return 1;
        }
        if (!point(x, y) || !point(u, v) || x == u && y == v) {
            return 2;
        }
        return state.strokes.size() == 24 ? 3 : 0;
    }

    int would(int x, int y, int u, int v) {
        int why = whyNot(x, y, u, v);
        if (why != 0) {
            return worst(why);
        }
        State other = state.copy();
        other.strokes.add(new int[] {x, y, u, v});
        return yes(Shape.trailsOf(other) - shape.trails.size());
    }

    int worst() {
        if (state == null) {
            return no(1);
        }
        int found = -2;
        int fewest = Integer.MAX_VALUE;
        for (int s = 0; s < state.strokes.size(); s++) {
            State other = state.copy();
            other.strokes.remove(s);
            int n = Shape.trailsOf(other);
            if (n < fewest) {
                fewest = n;
                found = s;
            }
        }
        return yes(found);
    }

    int trailsBy(int join) {
        State other = state.copy();
        other.join = join;
        return Shape.trailsOf(other);
    }

    int nearest() {
        if (state == null) {
            return no(1);
        }
        int fewest = Integer.MAX_VALUE;
        int found = 0;
        for (int v = 0; v <= 50; v++) {
            int n = trailsBy(v);
            if (n < fewest) {
                fewest = n;
                found = v;
            }
        }
        return yes(found);
    }

    int enough(int n) {
        if (state == null) {
            return no(1);
        }
        if (n < 1 || n > 24) {
            return no(2);
        }
        for (int v = 0; v <= 50; v++) {
            if (trailsBy(v) <= n) {
                return yes(v);
            }
        }
        return yes(-2);
    }

    // ---- acts

    void act() {
        past.addLast(state.copy());
        if (past.size() > 10) {
            past.removeFirst();
        }
    }

    int add(int x, int y, int u, int v) {
        int why = whyNot(x, y, u, v);
        if (why != 0) {
            return no(why);
        }
        act();
        state.strokes.add(new int[] {x, y, u, v});
        reshape(true);
        return yes(state.strokes.size());
    }

    int drop(int s) {
        if (state == null || s < 0 || s >= state.strokes.size()) {
            return no(1);
        }
        act();
        state.strokes.remove(s);
        reshape(true);
        return yes(state.strokes.size());
    }

    int home(int x, int y) {
        if (state == null) {
            return no(1);
        }
        if (!point(x, y)) {
            return no(2);
        }
        act();
        state.homeX = x;
        state.homeY = y;
        return yes(travelOf(state.plan));
    }

    int join(int v) {
        if (state == null) {
            return no(1);
        }
        if (v < 0 || v > 50) {
            return no(2);
        }
        act();
        boolean other = state.join != v;
        state.join = v;
        reshape(other);
        return yes(shape.trails.size());
    }

    int pace(int down, int up) {
        if (state == null) {
            return no(1);
        }
        if (down < 1 || down > 9 || up < 1 || up > 9) {
            return no(2);
        }
        act();
        state.down = down;
        state.up = up;
        return yes(timeOf());
    }

    int exchange(int i, int k) {
        if (!place(i) || !place(k)) {
            return no(1);
        }
        if (i > k) {
            return no(2);
        }
        act();
        state.plan = turned(state.plan, i, k);
        return yes(travelOf(state.plan));
    }

    int improve() {
        if (state == null) {
            return no(1);
        }
        if (makeBetter() == 0) {
            return no(5);
        }
        act();
        state.plan = bettered;
        return yes(travelOf(state.plan));
    }

    boolean undo() {
        if (past.isEmpty()) {
            no(1);
            return false;
        }
        state = past.removeLast();
        reshape(false);
        yes(0);
        return true;
    }

    int loose(int i) {
        List<Integer> loose = new ArrayList<>();
        if (state != null) {
            for (int m = 0; m < shape.meetings.size(); m++) {
                if (shape.meetings.get(m).size() == 1) {
                    loose.add(m);
                }
            }
        }
        if (i < 0 || i >= loose.size()) {
            throw new NoSuchElementException("none");
        }
        return loose.get(i);
    }

    int size(int what) {
        switch (what) {
            case 0: return tape.size();
            case 1: return past.size();
            case 2: return state == null ? 0 : shape.pairs.size();
            default: return NONE;
        }
    }
}
