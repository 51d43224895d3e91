import java.util.ArrayList;
import java.util.List;
import java.util.NoSuchElementException;

/**
 * The document once more, as plainly as it goes: unit by unit, with all that was ever laid, with whole copies.
 * AgainstModelTest compares BentShares with it. Nothing here is shared with the program.
 */
public final class PlainModel {
    static final int NONE = -1;

    /** A class; of a packet the size and the time when it came are kept. */
    static final class Cls {
        int in = NONE;
        int[][] curve = new int[3][];
        List<List<int[]>> laid = List.of(new ArrayList<>(), new ArrayList<>(), new ArrayList<>());
        List<int[]> queue = new ArrayList<>();
        int sent;
        int granted;
        int virtual;
        int peak;
        int lost;

        Cls copy() {
            Cls c = new Cls();
            c.in = in;
            c.curve = curve.clone();
            for (int k = 0; k < 3; k++) {
                c.laid.get(k).addAll(laid.get(k));
            }
            c.queue.addAll(queue);
            c.sent = sent;
            c.granted = granted;
            c.virtual = virtual;
            c.peak = peak;
            c.lost = lost;
            return c;
        }
    }

    static final class Flow {
        int leaf;
        int every;
        int phase;
        int size;
        boolean stopped;

        Flow copy() {
            Flow f = new Flow();
            f.leaf = leaf;
            f.every = every;
            f.phase = phase;
            f.size = size;
            f.stopped = stopped;
            return f;
        }
    }

    static final class State {
        List<Cls> classes = new ArrayList<>();
        List<Flow> flows = new ArrayList<>();
        int time;
        int busy;
        int linkPeak;
        int withheld = NONE; // a flow that tells nothing in the next unit
        int byGrant;
        int chosen;
        int last = NONE;
        List<int[]> log = new ArrayList<>(); // leaf, time, by grant, size, when it came

        State copy() {
            State s = new State();
            for (Cls c : classes) {
                s.classes.add(c.copy());
            }
            for (Flow f : flows) {
                s.flows.add(f.copy());
            }
            s.time = time;
            s.busy = busy;
            s.linkPeak = linkPeak;
            s.byGrant = byGrant;
            s.chosen = chosen;
            s.last = last;
            return s;
        }

        boolean leaf(int c) {
            for (Cls other : classes) {
                if (other.in == c) {
                    return false;
                }
            }
            return true;
        }

        boolean active(int c) {
            if (!classes.get(c).queue.isEmpty()) {
                return true;
            }
            for (int k = 0; k < classes.size(); k++) {
                if (classes.get(k).in == c && active(k)) {
                    return true;
                }
            }
            return false;
        }

        int peakOf(int in) {
            return in == NONE ? linkPeak : classes.get(in).peak;
        }

        void setVirtual(Cls c, int v) {
            c.virtual = v;
            if (c.in == NONE) {
                linkPeak = Math.max(linkPeak, v);
            } else {
                classes.get(c.in).peak = Math.max(classes.get(c.in).peak, v);
            }
        }

        void comes(int c, int size) {
            Cls leaf = classes.get(c);
            if (leaf.queue.size() == 20) {
                leaf.lost++;
                return;
            }
            List<Integer> waking = new ArrayList<>();
            for (int k = c; k != NONE; k = classes.get(k).in) {
                if (!active(k)) {
                    waking.add(k);
                }
            }
            leaf.queue.add(new int[] {size, time});
            for (int k : waking) {
                wakes(k);
            }
        }

        void wakes(int k) {
            Cls c = classes.get(k);
            List<Integer> others = new ArrayList<>();
            for (int o = 0; o < classes.size(); o++) {
                if (o != k && classes.get(o).in == c.in && active(o)) {
                    others.add(classes.get(o).virtual);
                }
            }
            int start = peakOf(c.in);
            if (!others.isEmpty()) {
                int least = others.stream().mapToInt(v -> v).min().getAsInt();
                int most = others.stream().mapToInt(v -> v).max().getAsInt();
                start = Math.floorDiv(least + most, 2);
            }
            setVirtual(c, Math.max(c.virtual, start));
            c.laid.get(1).add(new int[] {c.virtual, c.sent});
            if (c.curve[2] != null) {
                c.laid.get(2).add(new int[] {time, c.sent});
            }
            if (c.curve[0] != null) {
                c.laid.get(0).add(new int[] {time, c.granted});
            }
        }

        static boolean enough(int m1, int d, int m2, int span, int need) {
            return need <= m1 * Math.min(span, d) + m2 * Math.max(span - d, 0);
        }

        static int reaches(int m1, int d, int m2, int x, int y, int n) {
            if (n <= y) {
                return x;
            }
            int need = 100 * (n - y);
            int high = 1;
            while (!enough(m1, d, m2, high, need)) {
                high *= 2;
            }
            int low = high / 2; // not enough, or 0
            while (high - low > 1) {
                int middle = (low + high) / 2;
                if (enough(m1, d, m2, middle, need)) {
                    high = middle;
                } else {
                    low = middle;
                }
            }
            return x + high;
        }

        static int greatest(Cls c, int k, int m1, int n) {
            int most = 0;
            for (int[] at : c.laid.get(k)) {
                most = Math.max(most, reaches(m1, c.curve[k][1], c.curve[k][2], at[0], at[1], n));
            }
            return most;
        }

        int eligible(int k) {
            Cls c = classes.get(k);
            return greatest(c, 0, Math.max(c.curve[0][0], c.curve[0][2]), c.granted);
        }

        int deadline(int k) {
            Cls c = classes.get(k);
            return greatest(c, 0, c.curve[0][0], c.granted + c.queue.get(0)[0]);
        }

        int fit(int k) {
            Cls c = classes.get(k);
            int own = c.curve[2] == null ? 0 : greatest(c, 2, c.curve[2][0], c.sent);
            int least = Integer.MAX_VALUE;
            for (int o = 0; o < classes.size(); o++) {
                if (classes.get(o).in == k && active(o)) {
                    least = Math.min(least, fit(o));
                }
            }
            return least == Integer.MAX_VALUE ? own : Math.max(own, least);
        }

        void unit() {
            for (int f = 0; f < flows.size(); f++) {
                Flow flow = flows.get(f);
                if (!flow.stopped && f != withheld && time % flow.every == flow.phase) {
                    comes(flow.leaf, flow.size);
                }
            }
            if (busy == 0) {
                choose();
            }
            if (busy > 0) {
                busy--;
            }
            time++;
        }

        void choose() {
            int best = NONE;
            for (int k = 0; k < classes.size(); k++) {
                if (classes.get(k).queue.isEmpty() || classes.get(k).curve[0] == null || eligible(k) > time) {
                    continue;
                }
                if (best == NONE || deadline(k) < deadline(best)) {
                    best = k;
                }
            }
            if (best != NONE) {
                goes(best, true);
                return;
            }
            int in = NONE;
            while (true) {
                int next = NONE;
                for (int k = 0; k < classes.size(); k++) {
                    if (classes.get(k).in != in || !active(k) || fit(k) > time) {
                        continue;
                    }
                    if (next == NONE || classes.get(k).virtual < classes.get(next).virtual) {
                        next = k;
                    }
                }
                if (next == NONE) {
                    return;
                }
                if (leaf(next)) {
                    goes(next, false);
                    return;
                }
                in = next;
            }
        }

        void goes(int k, boolean byGrant) {
            int[] packet = classes.get(k).queue.remove(0);
            if (byGrant) {
                classes.get(k).granted += packet[0];
                this.byGrant++;
            }
            for (int o = k; o != NONE; o = classes.get(o).in) {
                Cls c = classes.get(o);
                c.sent += packet[0];
                setVirtual(c, greatest(c, 1, c.curve[1][0], c.sent));
            }
            busy = packet[0];
            chosen++;
            last = k;
            log.add(new int[] {k, time, byGrant ? 1 : 0, packet[0], packet[1]});
        }

        void changes(int k, int curve, int m1, int d, int m2) {
            Cls c = classes.get(k);
            c.curve[curve] = new int[] {m1, d, m2};
            c.laid.get(curve).clear();
            if (active(k)) {
                int x = curve == 1 ? c.virtual : time;
                int y = curve == 0 ? c.granted : c.sent;
                c.laid.get(curve).add(new int[] {x, y});
            }
        }

        void passes(int units) {
            for (int i = 0; i < units; i++) {
                unit();
            }
        }

        int packets() {
            return classes.stream().mapToInt(c -> c.queue.size()).sum();
        }

        int lost() {
            return classes.stream().mapToInt(c -> c.lost).sum();
        }

        int sent() {
            int sum = 0;
            for (int k = 0; k < classes.size(); k++) {
                sum += leaf(k) ? classes.get(k).sent : 0;
            }
            return sum;
        }

        int spread(int in) {
            int least = Integer.MAX_VALUE;
            int most = Integer.MIN_VALUE;
            for (int k = 0; k < classes.size(); k++) {
                if (classes.get(k).in == in && active(k)) {
                    least = Math.min(least, classes.get(k).virtual);
                    most = Math.max(most, classes.get(k).virtual);
                }
            }
            return least == Integer.MAX_VALUE ? 0 : most - least;
        }
    }

    private final List<Integer> tape = new ArrayList<>();
    private int fault = NONE;
    private int[] status = new int[3];
    private State now = new State();
    private List<State> acts = new ArrayList<>();
    private List<int[]> noted = new ArrayList<>();

    private State imageState;
    private List<State> imageActs;
    private List<int[]> imageNoted;
    private int[] imageStatus;

    // ---- the text: the tokens are cut first, then read

    private static final class Fault extends Exception {
        private static final long serialVersionUID = 1L;
        final int code;
        final int place;

        Fault(int code, int place) {
            this.code = code;
            this.place = place;
        }
    }

    private List<String> tokens;
    private List<Integer> places;
    private int current;

    private void cut(String text) {
        tokens = new ArrayList<>();
        places = new ArrayList<>();
        current = 0;
        java.util.regex.Matcher m = java.util.regex.Pattern.compile("[a-z]+|[0-9]+|[^ \n]", java.util.regex.Pattern.DOTALL)
                .matcher(text);
        while (m.find()) {
            tokens.add(m.group());
            places.add(m.start());
        }
        tokens.add("");
        places.add(text.length());
    }

    private String token() {
        return tokens.get(current);
    }

    private Fault faultOf(int code) {
        return new Fault(code, places.get(current));
    }

    private int numberOf(int least, int most) throws Fault {
        current++;
        if (!token().matches("[0-9]+")) {
            throw faultOf(1);
        }
        if (token().length() > 3 || Integer.parseInt(token()) < least || Integer.parseInt(token()) > most) {
            throw faultOf(2);
        }
        return Integer.parseInt(token());
    }

    private State read(String text) throws Fault {
        State s = new State();
        cut(text);
        while (!token().isEmpty()) {
            if (token().equals("class")) {
                readClass(s);
            } else if (token().equals("flow")) {
                readFlow(s);
            } else {
                throw faultOf(1);
            }
            current++;
        }
        return s;
    }

    private void readClass(State s) throws Fault {
        if (s.classes.size() == 12) {
            throw faultOf(2);
        }
        Cls c = new Cls();
        c.curve[1] = new int[] {10, 0, 10};
        current++;
        if (token().equals("in")) {
            int in = numberOf(0, 11);
            boolean held = in < s.classes.size() && s.classes.get(in).curve[0] == null
                    && s.flows.stream().noneMatch(f -> f.leaf == in);
            if (!held) {
                throw faultOf(3);
            }
            c.in = in;
            current++;
        }
        List<String> words = List.of("grant", "share", "upper");
        boolean[] had = new boolean[3];
        while (words.contains(token())) {
            int k = words.indexOf(token());
            if (had[k]) {
                throw faultOf(5);
            }
            had[k] = true;
            c.curve[k] = new int[] {numberOf(0, 100), numberOf(0, 30), numberOf(1, 100)};
            current++;
        }
        if (!token().equals(";")) {
            throw faultOf(1);
        }
        s.classes.add(c);
    }

    private void readFlow(State s) throws Fault {
        if (s.flows.size() == 8) {
            throw faultOf(2);
        }
        Flow f = new Flow();
        f.leaf = numberOf(0, 11);
        if (f.leaf >= s.classes.size() || !s.leaf(f.leaf)) {
            throw faultOf(3);
        }
        f.every = numberOf(1, 200);
        f.phase = numberOf(0, 199);
        f.size = numberOf(1, 64);
        current++;
        if (!token().equals(";")) {
            throw faultOf(1);
        }
        s.flows.add(f);
    }

    // ---- the face

    public int feed(int a, int b, int c, int d, int e) {
        if (tape.size() > 680) {
            return NONE;
        }
        for (int number : new int[] {a, b, c, d, e}) {
            for (byte one : java.nio.ByteBuffer.allocate(4).putInt(number).array()) {
                tape.add(one & 255);
            }
        }
        return tape.size();
    }

    public int link(int n) {
        if (n < 0 || n > tape.size()) {
            throw new IllegalArgumentException();
        }
        StringBuilder text = new StringBuilder();
        for (int i = 0; i < n; i++) {
            text.append((char) (int) tape.get(i));
        }
        tape.clear();
        try {
            now = read(text.toString());
            fault = NONE;
            acts.clear();
            noted.clear();
            imageState = null;
            return 0;
        } catch (Fault f) {
            fault = f.place;
            status[0]++;
            return f.code;
        }
    }

    public int fault() {
        return fault;
    }

    public int count(int what) {
        int activeLeaves = 0;
        for (Cls c : now.classes) {
            activeLeaves += c.queue.isEmpty() ? 0 : 1;
        }
        int[] all = {now.classes.size(), now.flows.size(), now.time, now.busy, activeLeaves, now.packets(), now.chosen,
            now.byGrant, now.lost(), now.linkPeak, now.sent(), now.last, acts.size(), noted.size(), tape.size(), status[0],
            status[1], status[2]};
        return pick(all, what);
    }

    private static int pick(int[] all, int what) {
        if (what < 0 || what >= all.length) {
            throw new NoSuchElementException();
        }
        return all[what];
    }

    private Cls need(int cls) {
        if (!isClass(cls)) {
            throw new NoSuchElementException();
        }
        return now.classes.get(cls);
    }

    private boolean isClass(int cls) {
        return cls >= 0 && cls < now.classes.size();
    }

    private void needLeaf(int cls) {
        need(cls);
        if (!now.leaf(cls)) {
            throw new NoSuchElementException();
        }
    }

    private void needQueue(int cls) {
        if (need(cls).queue.isEmpty()) {
            throw new NoSuchElementException();
        }
    }

    private static void range(int n, int least, int most) {
        if (n < least || n > most) {
            throw new IllegalArgumentException();
        }
    }

    private static int one(boolean b) {
        return b ? 1 : 0;
    }

    public int of(int cls, int what) {
        Cls c = need(cls);
        int bytes = c.queue.stream().mapToInt(p -> p[0]).sum();
        return pick(new int[] {c.in, one(now.leaf(cls)), one(now.active(cls)), c.sent, c.granted, c.virtual, c.peak, c.lost,
            c.queue.size(), bytes}, what);
    }

    public int curve(int cls, int curve, int what) {
        Cls c = need(cls);
        if (curve < 0 || curve > 2 || c.curve[curve] == null) {
            throw new NoSuchElementException();
        }
        return pick(c.curve[curve], what);
    }

    public int packet(int cls, int i) {
        return pick(need(cls).queue.stream().mapToInt(p -> p[0]).toArray(), i);
    }

    public int due(int cls, int what) {
        Cls c = need(cls);
        if (what == 2 && now.active(cls)) {
            return now.fit(cls);
        }
        if (c.queue.isEmpty() || c.curve[0] == null || what < 0 || what > 1) {
            throw new NoSuchElementException();
        }
        return what == 0 ? now.eligible(cls) : now.deadline(cls);
    }

    private int refuse() {
        status[1]++;
        return NONE;
    }

    private void keep() {
        acts.add(now.copy());
        if (acts.size() > 40) {
            acts.remove(0);
        }
    }

    public int come(int cls, int size) {
        if (!isClass(cls) || !now.leaf(cls) || size < 1 || size > 64) {
            return refuse();
        }
        keep();
        now.comes(cls, size);
        return now.classes.get(cls).queue.size();
    }

    public int units(int many) {
        if (many < 1 || many > 100 || now.time > 2000 - many) {
            return refuse();
        }
        keep();
        now.passes(many);
        now.log.clear();
        return now.time;
    }

    public int change(int cls, int curve, int m1, int d, int m2) {
        if (!isClass(cls) || curve < 0 || curve > 2 || m1 < 0 || m1 > 100 || d < 0 || d > 30 || m2 < 1 || m2 > 100
                || curve == 0 && !now.leaf(cls)) {
            return refuse();
        }
        int[] was = now.classes.get(cls).curve[curve];
        if (was != null && was[0] == m1 && was[1] == d && was[2] == m2) {
            return refuse();
        }
        keep();
        now.changes(cls, curve, m1, d, m2);
        return one(was != null);
    }

    public int empty(int cls) {
        if (!isClass(cls) || now.classes.get(cls).queue.isEmpty()) {
            return refuse();
        }
        keep();
        int many = now.classes.get(cls).queue.size();
        now.classes.get(cls).queue.clear();
        return many;
    }

    public boolean lift(int cls, int curve) {
        if (!isClass(cls) || curve != 0 && curve != 2 || now.classes.get(cls).curve[curve] == null) {
            refuse();
            return false;
        }
        keep();
        now.classes.get(cls).curve[curve] = null;
        now.classes.get(cls).laid.get(curve).clear();
        return true;
    }

    public int stop(int flow) {
        if (flow < 0 || flow >= now.flows.size()) {
            return refuse();
        }
        keep();
        now.flows.get(flow).stopped ^= true;
        int bits = 0;
        for (int f = 0; f < now.flows.size(); f++) {
            bits += now.flows.get(f).stopped ? 1 << f : 0;
        }
        return bits;
    }

    public int undo() {
        if (acts.isEmpty()) {
            return NONE;
        }
        now = acts.remove(acts.size() - 1).copy(); // an image may hold that one, too
        return acts.size();
    }

    private int[] firstOver(int[] more) {
        List<int[]> grants = new ArrayList<>();
        for (Cls c : now.classes) {
            if (c.curve[0] != null) {
                grants.add(c.curve[0]);
            }
        }
        if (more != null) {
            grants.add(more);
        }
        // The pieces bend by 30 at the latest; 12 curves come to 36000 by then, so 40000 units tell all.
        for (int t = 0; t < 40000; t++) {
            int sum = 0;
            for (int[] g : grants) {
                sum += g[0] * Math.min(t, g[1]) + g[2] * Math.max(t - g[1], 0);
            }
            if (sum > 100 * t) {
                return new int[] {0, t, sum - 100 * t};
            }
        }
        return new int[] {1, NONE, 0};
    }

    public int together(int what) {
        return pick(firstOver(null), what);
    }

    public int toGrant(int d, int m2) {
        range(d, 0, 30);
        range(m2, 1, 100);
        int greatest = NONE;
        for (int m1 = 0; m1 <= 100; m1++) {
            greatest = firstOver(new int[] {m1, d, m2})[0] == 1 ? m1 : greatest;
        }
        return greatest;
    }

    public int bound(int cls, int bytes) {
        int[] g = need(cls).curve[0];
        if (g == null) {
            throw new NoSuchElementException();
        }
        range(bytes, 1, 999);
        return State.reaches(g[0], g[1], g[2], 0, 0, bytes) + 64;
    }

    private State behind(int units) {
        State s = now.copy();
        s.passes(units);
        return s;
    }

    public int then(int cls, int units, int what) {
        need(cls);
        pick(new int[6], what);
        range(units, 0, 400);
        State s = behind(units);
        Cls c = s.classes.get(cls);
        return pick(new int[] {c.sent, c.queue.size(), c.virtual, c.granted, c.lost, one(s.active(cls))}, what);
    }

    public int next(int i, int what) {
        pick(new int[3], what);
        range(i, 1, 20);
        State s = behind(400);
        return s.log.size() < i ? NONE : s.log.get(i - 1)[what];
    }

    private static int wait(State s, int leaf, int packets, int from) {
        int left = packets;
        for (int[] one : s.log) {
            left -= one[0] == leaf ? 1 : 0;
            if (left == 0) {
                return one[1] - from;
            }
        }
        return NONE;
    }

    public int waits(int cls) {
        needQueue(cls);
        return wait(behind(400), cls, now.classes.get(cls).queue.size(), now.time);
    }

    public int longest(int cls, int units) {
        needLeaf(cls);
        range(units, 1, 200);
        State s = now.copy();
        for (Cls c : s.classes) {
            for (int i = 0; i < c.queue.size(); i++) {
                c.queue.set(i, new int[] {c.queue.get(i)[0], NONE});
            }
        }
        s.passes(units);
        int longest = NONE;
        for (int[] one : s.log) {
            if (one[0] == cls && one[4] != NONE) {
                longest = Math.max(longest, one[1] - one[4]);
            }
        }
        return longest;
    }

    public int toShare(int cls, int bytes, int units) {
        need(cls);
        range(bytes, 1, 999);
        range(units, 1, 200);
        for (int m = 1; m <= 100; m++) {
            State s = now.copy();
            s.changes(cls, 1, m, 0, m);
            s.passes(units);
            if (s.classes.get(cls).sent - now.classes.get(cls).sent >= bytes) {
                return m;
            }
        }
        return NONE;
    }

    public int toCap(int cls, int leaf, int units) {
        need(cls);
        needQueue(leaf);
        range(units, 0, 399);
        int greatest = NONE;
        for (int m = 1; m <= 100; m++) {
            State s = now.copy();
            s.changes(cls, 2, m, 0, m);
            s.passes(400);
            int wait = wait(s, leaf, now.classes.get(leaf).queue.size(), now.time);
            greatest = wait != NONE && wait <= units ? m : greatest;
        }
        return greatest;
    }

    public int blocked(int leaf, int by) {
        needQueue(leaf);
        needLeaf(by);
        int left = now.classes.get(leaf).queue.size();
        int sum = 0;
        for (int[] one : behind(400).log) {
            left -= one[0] == leaf ? 1 : 0;
            if (left == 0) {
                return sum;
            }
            sum += one[0] == by ? one[3] : 0;
        }
        return sum;
    }

    public int spread(int cls, int units) {
        if (cls != NONE) {
            need(cls);
        }
        range(units, 0, 400);
        State s = now.copy();
        int most = s.spread(cls);
        for (int i = 0; i < units; i++) {
            s.unit();
            most = Math.max(most, s.spread(cls));
        }
        return most;
    }

    public int note(int cls, int units, int bytes) {
        if (noted.size() == 8 || !isClass(cls) || units < 0 || units > 100 || bytes < 0 || bytes > 9999) {
            status[2]++;
            return NONE;
        }
        noted.add(new int[] {cls, units, bytes});
        return noted.size();
    }

    /** What each class has sent behind each number of units up to 100. */
    private int[][] sentBehind(State s) {
        int[][] sent = new int[101][s.classes.size()];
        for (int u = 0; u <= 100; u++) {
            for (int k = 0; k < s.classes.size(); k++) {
                sent[u][k] = s.classes.get(k).sent;
            }
            s.unit();
        }
        return sent;
    }

    private boolean agrees(int[][] sent) {
        for (int[] n : noted) {
            if (sent[n[1]][n[0]] - now.classes.get(n[0]).sent != n[2]) {
                return false;
            }
        }
        return true;
    }

    private List<int[]> agreeing(List<int[][]> all) {
        List<int[]> found = new ArrayList<>();
        for (int f = 0; f < now.flows.size(); f++) {
            for (int size = 1; size <= 64; size++) {
                if (size != now.flows.get(f).size) {
                    State s = now.copy();
                    s.flows.get(f).size = size;
                    int[][] sent = sentBehind(s);
                    if (agrees(sent)) {
                        found.add(new int[] {f, size});
                        all.add(sent);
                    }
                }
            }
        }
        return found;
    }

    public int other(int what) {
        pick(new int[3], what);
        if (what == 2) {
            return one(agrees(sentBehind(now.copy())));
        }
        List<int[]> found = agreeing(new ArrayList<>());
        if (what == 0) {
            return found.size();
        }
        return found.isEmpty() ? NONE : 100 * found.get(0)[0] + found.get(0)[1];
    }

    public int look(int what) {
        pick(new int[2], what);
        List<int[][]> all = new ArrayList<>();
        agreeing(all);
        int which = NONE;
        int most = 0;
        for (int k = 0; k < now.classes.size(); k++) {
            java.util.Set<Integer> values = new java.util.HashSet<>();
            for (int[][] sent : all) {
                values.add(sent[50][k]);
            }
            if (values.size() > most) {
                most = values.size();
                which = k;
            }
        }
        return what == 0 ? which : most;
    }

    public void forget() {
        noted.clear();
    }

    public int storms(int flow, int packets, int tenths, int most) {
        if (flow < 0 || flow >= now.flows.size()) {
            throw new NoSuchElementException();
        }
        range(packets, 1, 5);
        range(tenths, 0, 10);
        return stormy(now.copy(), flow, packets, tenths, most, now.time + 100);
    }

    /** The ways fork where the flow tells a packet. */
    private static int stormy(State s, int flow, int packets, int tenths, int most, int until) {
        while (s.time < until) {
            Flow f = s.flows.get(flow);
            if (packets > 0 && !f.stopped && s.time % f.every == f.phase) {
                State without = s.copy();
                without.withheld = flow;
                without.unit();
                without.withheld = NONE;
                s.unit();
                return tenths * stormy(without, flow, packets - 1, tenths, most, until)
                        + (10 - tenths) * stormy(s, flow, packets - 1, tenths, most, until);
            }
            s.unit();
        }
        int all = 1;
        for (int i = 0; i < packets; i++) {
            all *= 10;
        }
        return s.packets() <= most ? all : 0;
    }

    private int seed;

    private int draw(int n) {
        seed = seed * 1103515245 + 12345;
        return ((seed >> 16) & 0x7fff) % n;
    }

    public int years(int seed, int n, int what) {
        pick(new int[3], what);
        range(n, 0, 60);
        this.seed = seed;
        State s = now.copy();
        int most = 0;
        for (int i = 0; i < n; i++) {
            int event = draw(6);
            if (event < 3 && !s.classes.isEmpty()) {
                int cls = draw(s.classes.size());
                if (event == 0) {
                    int size = draw(64) + 1;
                    if (s.leaf(cls)) {
                        s.comes(cls, size);
                    }
                } else if (event == 1) {
                    int m = draw(100) + 1;
                    s.changes(cls, 1, m, 0, m);
                } else {
                    s.classes.get(cls).queue.clear();
                }
            }
            if (event == 3 && !s.flows.isEmpty()) {
                s.flows.get(draw(s.flows.size())).stopped ^= true;
            }
            s.passes(10);
            most = Math.max(most, s.packets());
        }
        return pick(new int[] {s.sent() - now.sent(), s.lost() - now.lost(), most}, what);
    }

    public int told(int cls, int i) {
        Cls c = need(cls);
        String text = "class" + (c.in == NONE ? "" : " in " + c.in);
        String[] words = {" grant", " share", " upper"};
        for (int k = 0; k < 3; k++) {
            if (c.curve[k] != null) {
                text += words[k] + " " + c.curve[k][0] + " " + c.curve[k][1] + " " + c.curve[k][2];
            }
        }
        text += ";";
        return i == NONE ? text.length() : pick(text.chars().toArray(), i);
    }

    public void image() {
        imageState = now.copy();
        imageActs = new ArrayList<>(acts);
        imageNoted = new ArrayList<>(noted);
        imageStatus = status.clone();
    }

    public boolean restore() {
        if (imageState == null) {
            return false;
        }
        now = imageState.copy();
        acts = new ArrayList<>(imageActs);
        noted = new ArrayList<>(imageNoted);
        status = imageStatus.clone();
        return true;
    }
}
