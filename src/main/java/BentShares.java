import java.util.Arrays;
import java.util.NoSuchElementException;

/** A link that is shared by curves. What it must do stands in ../shared/DOC.md, promise by promise. */
public final class BentShares {
    public static final int NONE = -1;

    private static final int MOST_CLASSES = 12;
    private static final int MOST_FLOWS = 8;
    private static final int MOST_PACKETS = 20;
    private static final int MOST_SIZE = 64;
    private static final int MOST_TAPE = 700;
    private static final int MOST_TIME = 2000;
    private static final int MOST_ACTS = 40;
    private static final int MOST_NOTED = 8;

    // The link stands behind the classes in rows that have a place for it.
    private static final int LINK = MOST_CLASSES;
    private static final int NEVER = 1000000;

    private static final int CURVES = 3;
    private static final int GRANT = 0;
    private static final int SHARE = 1;
    private static final int UPPER = 2;

    private static final int REFUSED_TEXTS = 0;
    private static final int REFUSED_ACTS = 1;
    private static final int REFUSED_NOTES = 2;

    private final int[] tape = new int[MOST_TAPE];
    private int taped = 0;
    private int faultPlace = NONE;
    private final int[] status = new int[3];

    private final Plan plan = new Plan();
    private final Plan draft = new Plan();
    private final Reader reader = new Reader(tape, draft);
    private final Line line = new Line(plan);
    private final History history = new History(plan);
    private final Notes notes = new Notes();

    private boolean hasImage = false;
    private final Line imageLine = new Line(plan);
    private final History imageHistory = new History(plan);
    private final Notes imageNotes = new Notes();
    private final int[] imageStatus = new int[3];

    // One line is enough to try out on: each call that looks ahead lays it anew.
    private final Line later = new Line(plan);
    private final Grants grants = new Grants(plan, line);
    private final Forecast forecast = new Forecast(plan, line, later);
    private final Guess guess = new Guess(plan, line, later, notes);
    private final Chance chance = new Chance(plan, line, later);
    private final Teller teller = new Teller();

    public BentShares() {
    }

    // ---- the text

    public int feed(int a, int b, int c, int d, int e) {
        if (taped + 20 > MOST_TAPE) {
            return NONE;
        }
        putNumber(a);
        putNumber(b);
        putNumber(c);
        putNumber(d);
        putNumber(e);
        return taped;
    }

    private void putNumber(int number) {
        for (int shift = 24; shift >= 0; shift -= 8) {
            if (taped < MOST_TAPE) {
                tape[taped] = (number >>> shift) & 255;
                taped++;
            }
        }
    }

    public int link(int n) throws IllegalArgumentException {
        if (n < 0 || n > taped) {
            throw new IllegalArgumentException();
        }
        int code = reader.read(n);
        taped = 0;
        if (code != Reader.FINE) {
            faultPlace = reader.place();
            status[REFUSED_TEXTS]++;
            return code;
        }
        faultPlace = NONE;
        plan.copyFrom(draft);
        line.begin();
        history.clear();
        notes.clear();
        hasImage = false;
        return Reader.FINE;
    }

    public int fault() {
        return faultPlace;
    }

    // ---- how it is

    public int count(int what) throws NoSuchElementException {
        switch (what) {
            case 0: return plan.classes;
            case 1: return plan.flows;
            case 2: return line.time;
            case 3: return line.busy;
            case 4: return line.activeLeaves();
            case 5: return line.held[LINK];
            case 6: return line.chosen;
            case 7: return line.byGrant;
            case 8: return line.allLost();
            case 9: return line.peak[LINK];
            case 10: return line.allSent();
            case 11: return line.last;
            case 12: return history.size();
            case 13: return notes.many;
            case 14: return taped;
            case 15: return status[REFUSED_TEXTS];
            case 16: return status[REFUSED_ACTS];
            case 17: return status[REFUSED_NOTES];
            default: throw new NoSuchElementException();
        }
    }

    public int of(int cls, int what) throws NoSuchElementException {
        needClass(cls);
        switch (what) {
            case 0: return plan.parent[cls] == LINK ? NONE : plan.parent[cls];
            case 1: return plan.isLeaf(cls) ? 1 : 0;
            case 2: return line.isActive(cls) ? 1 : 0;
            case 3: return line.sent[cls];
            case 4: return line.granted[cls];
            case 5: return line.virtual[cls];
            case 6: return line.peak[cls];
            case 7: return line.lost[cls];
            case 8: return line.packets(cls);
            case 9: return line.bytes(cls);
            default: throw new NoSuchElementException();
        }
    }

    public int curve(int cls, int curve, int what) throws NoSuchElementException {
        needClass(cls);
        if (!isCurve(curve) || !line.hasCurve(cls, curve)) {
            throw new NoSuchElementException();
        }
        int slot = cls * CURVES + curve;
        switch (what) {
            case 0: return line.curves.m1[slot];
            case 1: return line.curves.d[slot];
            case 2: return line.curves.m2[slot];
            default: throw new NoSuchElementException();
        }
    }

    public int packet(int cls, int i) throws NoSuchElementException {
        needClass(cls);
        if (i < 0 || i >= line.packets(cls)) {
            throw new NoSuchElementException();
        }
        return line.sizeOf(cls, i);
    }

    public int due(int cls, int what) throws NoSuchElementException {
        needClass(cls);
        if (what < 0 || what > 2 || !line.isActive(cls)) {
            throw new NoSuchElementException();
        }
        if (what == 2) {
            return line.fitOf(cls);
        }
        if (!line.hasCurve(cls, GRANT)) {
            throw new NoSuchElementException();
        }
        return what == 0 ? line.eligible(cls) : line.deadline(cls);
    }

    // ---- acts

    public int come(int cls, int size) {
        if (!plan.hasLeaf(cls) || size < 1 || size > MOST_SIZE) {
            return refuse(REFUSED_ACTS);
        }
        history.keep(line);
        line.accept(cls, size);
        return line.packets(cls);
    }

    public int units(int many) {
        if (many < 1 || many > 100 || line.time + many > MOST_TIME) {
            return refuse(REFUSED_ACTS);
        }
        history.keep(line);
        line.pass(many);
        return line.time;
    }

    public int change(int cls, int curve, int m1, int d, int m2) {
        if (!plan.hasClass(cls) || !isCurve(curve) || !Curves.isWell(m1, d, m2)) {
            return refuse(REFUSED_ACTS);
        }
        if (curve == GRANT && !plan.isLeaf(cls)) {
            return refuse(REFUSED_ACTS);
        }
        int slot = cls * CURVES + curve;
        boolean had = line.curves.has(slot);
        if (had && line.curves.isSo(slot, m1, d, m2)) {
            return refuse(REFUSED_ACTS);
        }
        history.keep(line);
        line.changeCurve(cls, curve, m1, d, m2);
        return had ? 1 : 0;
    }

    public int empty(int cls) {
        if (!plan.hasClass(cls) || line.packets(cls) == 0) {
            return refuse(REFUSED_ACTS);
        }
        history.keep(line);
        return line.emptyQueue(cls);
    }

    public boolean lift(int cls, int curve) {
        boolean may = curve == GRANT || curve == UPPER;
        if (!plan.hasClass(cls) || !may || !line.hasCurve(cls, curve)) {
            refuse(REFUSED_ACTS);
            return false;
        }
        history.keep(line);
        line.curves.drop(cls * CURVES + curve);
        return true;
    }

    public int stop(int flow) {
        if (!plan.hasFlow(flow)) {
            return refuse(REFUSED_ACTS);
        }
        history.keep(line);
        line.toggleFlow(flow);
        return line.stopped;
    }

    public int undo() {
        if (history.size() == 0) {
            return NONE;
        }
        history.takeBack(line);
        return history.size();
    }

    // ---- what is granted

    public int together(int what) throws NoSuchElementException {
        if (what < 0 || what > 2) {
            throw new NoSuchElementException();
        }
        return grants.answer(what);
    }

    public int toGrant(int d, int m2) throws IllegalArgumentException {
        if (!Curves.isWell(0, d, m2)) {
            throw new IllegalArgumentException();
        }
        return grants.greatestMore(d, m2);
    }

    public int bound(int cls, int bytes) throws NoSuchElementException, IllegalArgumentException {
        needClass(cls);
        if (!line.hasCurve(cls, GRANT)) {
            throw new NoSuchElementException();
        }
        needRange(bytes, 1, 999);
        return line.curves.reachFromZero(cls * CURVES + GRANT, bytes) + MOST_SIZE;
    }

    // ---- what comes, if only units go by

    public int then(int cls, int units, int what) throws NoSuchElementException, IllegalArgumentException {
        needClass(cls);
        if (what < 0 || what > 5) {
            throw new NoSuchElementException();
        }
        needRange(units, 0, 400);
        return forecast.behind(cls, units, what);
    }

    public int next(int i, int what) throws NoSuchElementException, IllegalArgumentException {
        if (what < 0 || what > 2) {
            throw new NoSuchElementException();
        }
        needRange(i, 1, 20);
        return forecast.chosenAt(i, what);
    }

    public int waits(int cls) throws NoSuchElementException {
        needQueue(cls);
        return forecast.waitOf(cls);
    }

    public int longest(int cls, int units) throws NoSuchElementException, IllegalArgumentException {
        needLeaf(cls);
        needRange(units, 1, 200);
        return forecast.longestWait(cls, units);
    }

    public int toShare(int cls, int bytes, int units) throws NoSuchElementException, IllegalArgumentException {
        needClass(cls);
        needRange(bytes, 1, 999);
        needRange(units, 1, 200);
        return forecast.leastShare(cls, bytes, units);
    }

    public int toCap(int cls, int leaf, int units) throws NoSuchElementException, IllegalArgumentException {
        needClass(cls);
        needQueue(leaf);
        needRange(units, 0, 399);
        return forecast.greatestCap(cls, leaf, units);
    }

    public int blocked(int leaf, int by) throws NoSuchElementException {
        needQueue(leaf);
        needLeaf(by);
        return forecast.bytesAhead(leaf, by);
    }

    public int spread(int cls, int units) throws NoSuchElementException, IllegalArgumentException {
        if (cls != NONE) {
            needClass(cls);
        }
        needRange(units, 0, 400);
        return forecast.widestSpread(cls == NONE ? LINK : cls, units);
    }

    // ---- what is noted

    public int note(int cls, int units, int bytes) {
        boolean well = plan.hasClass(cls) && units >= 0 && units <= 100 && bytes >= 0 && bytes <= 9999;
        if (!well || notes.many >= MOST_NOTED) {
            return refuse(REFUSED_NOTES);
        }
        notes.add(cls, units, bytes);
        return notes.many;
    }

    public int other(int what) throws NoSuchElementException {
        if (what < 0 || what > 2) {
            throw new NoSuchElementException();
        }
        if (what == 2) {
            return guess.holdsWithout() ? 1 : 0;
        }
        guess.tryAll(false);
        return what == 0 ? guess.many : guess.first;
    }

    public int look(int what) throws NoSuchElementException {
        if (what < 0 || what > 1) {
            throw new NoSuchElementException();
        }
        guess.tryAll(true);
        return what == 0 ? guess.mostUnlike() : guess.unlikeOf(guess.mostUnlike());
    }

    public void forget() {
        notes.clear();
    }

    // ---- what is likely

    public int storms(int flow, int packets, int tenths, int most) throws NoSuchElementException, IllegalArgumentException {
        if (!plan.hasFlow(flow)) {
            throw new NoSuchElementException();
        }
        needRange(packets, 1, Chance.MOST_STORMS);
        needRange(tenths, 0, 10);
        return chance.likelyAtMost(flow, packets, tenths, most);
    }

    public int years(int seed, int n, int what) throws NoSuchElementException, IllegalArgumentException {
        if (what < 0 || what > 2) {
            throw new NoSuchElementException();
        }
        needRange(n, 0, 60);
        return chance.liveThrough(seed, n, what);
    }

    // ---- told, kept

    public int told(int cls, int i) throws NoSuchElementException {
        needClass(cls);
        teller.tell(cls, plan, line.curves);
        if (i == NONE) {
            return teller.length;
        }
        if (i < 0 || i >= teller.length) {
            throw new NoSuchElementException();
        }
        return teller.signs[i];
    }

    public void image() {
        imageLine.copyFrom(line);
        imageHistory.copyFrom(history);
        imageNotes.copyFrom(notes);
        System.arraycopy(status, 0, imageStatus, 0, status.length);
        hasImage = true;
    }

    public boolean restore() {
        if (!hasImage) {
            return false;
        }
        line.copyFrom(imageLine);
        history.copyFrom(imageHistory);
        notes.copyFrom(imageNotes);
        System.arraycopy(imageStatus, 0, status, 0, status.length);
        return true;
    }

    // ---- what calls are checked by

    private int refuse(int which) {
        status[which]++;
        return NONE;
    }

    private static boolean isCurve(int curve) {
        return curve >= 0 && curve < CURVES;
    }

    private void needClass(int cls) throws NoSuchElementException {
        if (!plan.hasClass(cls)) {
            throw new NoSuchElementException();
        }
    }

    private void needLeaf(int cls) throws NoSuchElementException {
        if (!plan.hasLeaf(cls)) {
            throw new NoSuchElementException();
        }
    }

    private void needQueue(int cls) throws NoSuchElementException {
        if (!plan.hasLeaf(cls) || !line.isActive(cls)) {
            throw new NoSuchElementException();
        }
    }

    private static void needRange(int number, int least, int most) throws IllegalArgumentException {
        if (number < least || number > most) {
            throw new IllegalArgumentException();
        }
    }

    /** The curves of all classes, and where they were laid; a slot is a class's place for one kind. */
    private static final class Curves {
        private static final int SLOTS = MOST_CLASSES * CURVES;
        private static final int MOST_M = 100;
        private static final int MOST_D = 30;
        // Behind each gathering at most 30 stand that are not past their bend (it lies
        // at most 30 bytes up), and one for all that are.
        private static final int MOST_LAID = 32;

        final int[] m1 = new int[SLOTS];
        final int[] d = new int[SLOTS];
        final int[] m2 = new int[SLOTS];
        // How many bytes above where it was laid a curve is past its bend for good.
        private final int[] toBend = new int[SLOTS];
        private final int[] laid = new int[SLOTS];
        private final int[] x = new int[SLOTS * MOST_LAID];
        private final int[] y = new int[SLOTS * MOST_LAID];

        static boolean isWell(int m1, int d, int m2) {
            return m1 >= 0 && m1 <= MOST_M && d >= 0 && d <= MOST_D && m2 >= 1 && m2 <= MOST_M;
        }

        void clear() {
            for (int slot = 0; slot < SLOTS; slot++) {
                drop(slot);
            }
        }

        void copyFrom(Curves from, int classes) {
            int slots = classes * CURVES;
            System.arraycopy(from.m1, 0, m1, 0, slots);
            System.arraycopy(from.d, 0, d, 0, slots);
            System.arraycopy(from.m2, 0, m2, 0, slots);
            System.arraycopy(from.toBend, 0, toBend, 0, slots);
            System.arraycopy(from.laid, 0, laid, 0, slots);
            for (int slot = 0; slot < slots; slot++) {
                int start = slot * MOST_LAID;
                for (int i = start; i < start + laid[slot]; i++) {
                    x[i] = from.x[i];
                    y[i] = from.y[i];
                }
            }
        }

        /** Of a curve the second slope is at least 1. */
        boolean has(int slot) {
            return m2[slot] > 0;
        }

        boolean isSo(int slot, int otherM1, int otherD, int otherM2) {
            return m1[slot] == otherM1 && d[slot] == otherD && m2[slot] == otherM2;
        }

        void put(int slot, int newM1, int newD, int newM2) {
            m1[slot] = newM1;
            d[slot] = newD;
            m2[slot] = newM2;
            // Not even a flat first piece counts for the byte at which it was laid.
            boolean straight = newD == 0 || newM1 == newM2;
            toBend[slot] = straight ? 0 : Math.max(1, (newM1 * newD + 99) / 100);
            laid[slot] = 0;
        }

        void drop(int slot) {
            m2[slot] = 0;
            laid[slot] = 0;
        }

        /**
         * No laying of a slot is lower than the one ahead of it, for bytes sent only grow.
         * All that is past its bend runs on alike: of it the one that will reach last is enough.
         */
        void lay(int slot, int newX, int newY) {
            if (m2[slot] == 0) {
                return;
            }
            int start = slot * MOST_LAID;
            int end = start + laid[slot];
            int best = start;
            int past = start;
            while (past < end && newY - y[past] >= toBend[slot]) {
                boolean reachesLater = m2[slot] * (x[past] - x[best]) > 100 * (y[past] - y[best]);
                best = reachesLater ? past : best;
                past++;
            }
            if (past - start > 1) {
                x[start] = x[best];
                y[start] = y[best];
                for (int i = past; i < end; i++) {
                    x[start + 1 + i - past] = x[i];
                    y[start + 1 + i - past] = y[i];
                }
                end -= past - start - 1;
            }
            if (end > start && y[end - 1] == newY) {
                x[end - 1] = newX > x[end - 1] ? newX : x[end - 1];
            } else if (end - start < MOST_LAID) {
                x[end] = newX;
                y[end] = newY;
                end++;
            }
            laid[slot] = end - start;
        }

        /** The greatest of where all that is laid reaches n, with another first slope. */
        int reached(int slot, int n, int slope) {
            int second = m2[slot];
            int bend = slope * d[slot];
            int greatest = 0;
            int start = slot * MOST_LAID;
            for (int i = start; i < start + laid[slot]; i++) {
                int need = 100 * (n - y[i]);
                int z = x[i];
                if (need > bend && second > 0) {
                    z += d[slot] + (need - bend + second - 1) / second;
                } else if (need > 0 && slope > 0) {
                    z += (need + slope - 1) / slope;
                }
                greatest = z > greatest ? z : greatest;
            }
            return greatest;
        }

        int reachFromZero(int slot, int n) {
            int need = 100 * n;
            int bend = m1[slot] * d[slot];
            if (need > bend && m2[slot] > 0) {
                return d[slot] + (need - bend + m2[slot] - 1) / m2[slot];
            }
            return need > 0 && m1[slot] > 0 ? (need + m1[slot] - 1) / m1[slot] : 0;
        }
    }

    /** What a text told: the tree of classes, their first curves, the flows. */
    private static final class Plan {
        int classes = 0;
        int flows = 0;
        final int[] parent = new int[MOST_CLASSES];
        final int[] kids = new int[MOST_CLASSES + 1];
        final int[] kid = new int[(MOST_CLASSES + 1) * MOST_CLASSES];
        final int[] flowLeaf = new int[MOST_FLOWS];
        final int[] every = new int[MOST_FLOWS];
        final int[] phase = new int[MOST_FLOWS];
        final int[] size = new int[MOST_FLOWS];
        final Curves first = new Curves();

        void clear() {
            classes = 0;
            flows = 0;
            Arrays.fill(kids, 0);
            first.clear();
        }

        void copyFrom(Plan from) {
            classes = from.classes;
            flows = from.flows;
            System.arraycopy(from.parent, 0, parent, 0, parent.length);
            System.arraycopy(from.kids, 0, kids, 0, kids.length);
            System.arraycopy(from.kid, 0, kid, 0, kid.length);
            System.arraycopy(from.flowLeaf, 0, flowLeaf, 0, flowLeaf.length);
            System.arraycopy(from.every, 0, every, 0, every.length);
            System.arraycopy(from.phase, 0, phase, 0, phase.length);
            System.arraycopy(from.size, 0, size, 0, size.length);
            first.copyFrom(from.first, MOST_CLASSES);
        }

        boolean hasClass(int cls) {
            return cls >= 0 && cls < classes;
        }

        boolean isLeaf(int cls) {
            return kids[cls] == 0;
        }

        boolean hasLeaf(int cls) {
            return hasClass(cls) && isLeaf(cls);
        }

        boolean hasFlow(int flow) {
            return flow >= 0 && flow < flows;
        }

        boolean mayHoldClass(int cls) {
            if (!hasClass(cls) || first.has(cls * CURVES + GRANT)) {
                return false;
            }
            for (int flow = 0; flow < flows; flow++) {
                if (flowLeaf[flow] == cls) {
                    return false;
                }
            }
            return true;
        }

        void addClass(int in) {
            parent[classes] = in;
            kid[in * MOST_CLASSES + kids[in]] = classes;
            kids[in]++;
            first.put(classes * CURVES + SHARE, 10, 0, 10);
            classes++;
        }

        void addFlow(int leaf, int newEvery, int newPhase, int newSize) {
            flowLeaf[flows] = leaf;
            every[flows] = newEvery;
            phase[flows] = newPhase;
            size[flows] = newSize;
            flows++;
        }

        /** How many units go by ahead of the one in which the flow tells a packet. */
        int untilTold(int flow, int time) {
            if (every[flow] < 1 || phase[flow] >= every[flow]) {
                return NEVER;
            }
            int gone = time % every[flow];
            return gone <= phase[flow] ? phase[flow] - gone : phase[flow] - gone + every[flow];
        }
    }

    /** Reads a text, token by token, into a plan; what reads answers a fault's code. */
    private static final class Reader {
        static final int FINE = 0;
        private static final int CANT_STAND = 1;
        private static final int TOO_MUCH = 2;
        private static final int NOT_TOLD = 3;
        private static final int TWICE = 5;

        private static final int END = 0;
        private static final int ODD = 1;
        private static final int NUMBER = 2;
        private static final int STOP = 3;
        private static final int CLASS_WORD = 4;
        private static final int FLOW_WORD = 5;
        private static final int IN_WORD = 6;
        // The words of the curves stand last, in the order of the curves.
        private static final int CURVE_WORD = 7;

        private final int[] text;
        private final Plan plan;
        private int end = 0;
        private int at = 0;
        private int behind = 0;
        private int kind = END;
        private int number = 0;

        Reader(int[] text, Plan plan) {
            this.text = text;
            this.plan = plan;
        }

        int place() {
            return at;
        }

        int read(int length) {
            end = length;
            behind = 0;
            plan.clear();
            takeToken();
            for (int step = 0; step <= end && kind != END; step++) {
                int code = CANT_STAND;
                if (kind == CLASS_WORD) {
                    code = readClass();
                    code = code == FINE ? readCurves((plan.classes - 1) * CURVES) : code;
                } else if (kind == FLOW_WORD) {
                    code = readFlow();
                }
                if (code != FINE) {
                    return code;
                }
                takeToken();
            }
            return FINE;
        }

        /** As far as its curves, the first word of these (or what stands there) taken. */
        private int readClass() {
            if (plan.classes >= MOST_CLASSES) {
                return TOO_MUCH;
            }
            int in = LINK;
            takeToken();
            if (kind == IN_WORD) {
                int code = readNumber(0, MOST_CLASSES - 1);
                if (code != FINE) {
                    return code;
                }
                if (!plan.mayHoldClass(number)) {
                    return NOT_TOLD;
                }
                in = number;
                takeToken();
            }
            plan.addClass(in);
            return FINE;
        }

        private int readCurves(int firstSlot) {
            int told = 0;
            for (int step = 0; step <= CURVES && kind != STOP; step++) {
                int curve = kind - CURVE_WORD;
                if (curve < 0) {
                    return CANT_STAND;
                }
                if ((told >> curve & 1) != 0) {
                    return TWICE;
                }
                told |= 1 << curve;
                int code = readCurve(firstSlot + curve);
                if (code != FINE) {
                    return code;
                }
                takeToken();
            }
            return FINE;
        }

        private int readCurve(int slot) {
            int code = readNumber(0, Curves.MOST_M);
            int m1 = number;
            if (code == FINE) {
                code = readNumber(0, Curves.MOST_D);
            }
            int d = number;
            if (code == FINE) {
                code = readNumber(1, Curves.MOST_M);
            }
            if (code == FINE) {
                plan.first.put(slot, m1, d, number);
            }
            return code;
        }

        private int readFlow() {
            if (plan.flows >= MOST_FLOWS) {
                return TOO_MUCH;
            }
            int code = readNumber(0, MOST_CLASSES - 1);
            int leaf = number;
            if (code == FINE && !plan.hasLeaf(leaf)) {
                code = NOT_TOLD;
            }
            if (code == FINE) {
                code = readNumber(1, 200);
            }
            int every = number;
            if (code == FINE) {
                code = readNumber(0, 199);
            }
            int phase = number;
            if (code == FINE) {
                code = readNumber(1, MOST_SIZE);
            }
            if (code != FINE) {
                return code;
            }
            plan.addFlow(leaf, every, phase, number);
            takeToken();
            return kind == STOP ? FINE : CANT_STAND;
        }

        private int readNumber(int least, int most) {
            takeToken();
            if (kind != NUMBER) {
                return CANT_STAND;
            }
            return number < least || number > most ? TOO_MUCH : FINE;
        }

        private void takeToken() {
            at = behind;
            while (at < end && (text[at] == ' ' || text[at] == 10)) {
                at++;
            }
            behind = at;
            if (at >= end) {
                kind = END;
            } else if (isLetter(at)) {
                takeWord();
            } else if (isDigit(at)) {
                takeNumber();
            } else {
                kind = text[at] == ';' ? STOP : ODD;
                behind = at + 1;
            }
        }

        private void takeWord() {
            while (behind < end && isLetter(behind)) {
                behind++;
            }
            kind = ODD;
            kind = isWord("class") ? CLASS_WORD : kind;
            kind = isWord("flow") ? FLOW_WORD : kind;
            kind = isWord("in") ? IN_WORD : kind;
            kind = isWord("grant") ? CURVE_WORD + GRANT : kind;
            kind = isWord("share") ? CURVE_WORD + SHARE : kind;
            kind = isWord("upper") ? CURVE_WORD + UPPER : kind;
        }

        private void takeNumber() {
            kind = NUMBER;
            number = 0;
            while (behind < end && isDigit(behind)) {
                number = number * 10 + text[behind] - '0';
                // One of four digits is too much, also if they are noughts.
                number = behind - at >= 3 ? NEVER : number;
                behind++;
            }
        }

        private boolean isLetter(int i) {
            return text[i] >= 'a' && text[i] <= 'z';
        }

        private boolean isDigit(int i) {
            return text[i] >= '0' && text[i] <= '9';
        }

        private boolean isWord(String word) {
            if (word.length() != behind - at) {
                return false;
            }
            for (int i = 0; i < word.length(); i++) {
                if (text[at + i] != word.charAt(i)) {
                    return false;
                }
            }
            return true;
        }
    }

    /** All that units and acts change. */
    private static final class Line {
        private final Plan plan;
        int time = 0;
        int busy = 0;
        int chosen = 0;
        int byGrant = 0;
        int last = NONE;
        int stopped = 0;
        final int[] sent = new int[MOST_CLASSES];
        final int[] granted = new int[MOST_CLASSES];
        final int[] virtual = new int[MOST_CLASSES];
        final int[] peak = new int[MOST_CLASSES + 1];
        final int[] lost = new int[MOST_CLASSES];
        // How many packets wait in a class or the link: it is active, if any does.
        final int[] held = new int[MOST_CLASSES + 1];
        private final int[] queue = new int[MOST_CLASSES * MOST_PACKETS];
        private final int[] head = new int[MOST_CLASSES];
        final int[] flowSize = new int[MOST_FLOWS];
        final Curves curves = new Curves();
        private final int[] fit = new int[MOST_CLASSES + 1];

        Line(Plan plan) {
            this.plan = plan;
        }

        void begin() {
            time = 0;
            busy = 0;
            chosen = 0;
            byGrant = 0;
            last = NONE;
            stopped = 0;
            Arrays.fill(sent, 0);
            Arrays.fill(granted, 0);
            Arrays.fill(virtual, 0);
            Arrays.fill(peak, 0);
            Arrays.fill(lost, 0);
            Arrays.fill(held, 0);
            Arrays.fill(head, 0);
            System.arraycopy(plan.size, 0, flowSize, 0, flowSize.length);
            curves.copyFrom(plan.first, MOST_CLASSES);
        }

        void copyFrom(Line from) {
            int classes = plan.classes;
            time = from.time;
            busy = from.busy;
            chosen = from.chosen;
            byGrant = from.byGrant;
            last = from.last;
            stopped = from.stopped;
            System.arraycopy(from.sent, 0, sent, 0, classes);
            System.arraycopy(from.granted, 0, granted, 0, classes);
            System.arraycopy(from.virtual, 0, virtual, 0, classes);
            System.arraycopy(from.peak, 0, peak, 0, peak.length);
            System.arraycopy(from.lost, 0, lost, 0, classes);
            System.arraycopy(from.held, 0, held, 0, held.length);
            System.arraycopy(from.queue, 0, queue, 0, classes * MOST_PACKETS);
            System.arraycopy(from.head, 0, head, 0, classes);
            System.arraycopy(from.flowSize, 0, flowSize, 0, plan.flows);
            curves.copyFrom(from.curves, classes);
        }

        boolean isActive(int cls) {
            return held[cls] > 0;
        }

        boolean hasCurve(int cls, int curve) {
            return curves.has(cls * CURVES + curve);
        }

        int packets(int cls) {
            return plan.isLeaf(cls) ? held[cls] : 0;
        }

        int sizeOf(int leaf, int i) {
            return queue[leaf * MOST_PACKETS + (head[leaf] + i) % MOST_PACKETS];
        }

        int bytes(int cls) {
            int sum = 0;
            for (int i = 0; i < packets(cls); i++) {
                sum += sizeOf(cls, i);
            }
            return sum;
        }

        int activeLeaves() {
            int many = 0;
            for (int cls = 0; cls < plan.classes; cls++) {
                many += packets(cls) > 0 ? 1 : 0;
            }
            return many;
        }

        int allLost() {
            int sum = 0;
            for (int cls = 0; cls < plan.classes; cls++) {
                sum += lost[cls];
            }
            return sum;
        }

        int allSent() {
            int sum = 0;
            for (int i = 0; i < plan.kids[LINK]; i++) {
                sum += sent[plan.kid[LINK * MOST_CLASSES + i]];
            }
            return sum;
        }

        int eligible(int leaf) {
            int slot = leaf * CURVES + GRANT;
            int m1 = curves.m1[slot];
            int m2 = curves.m2[slot];
            return curves.reached(slot, granted[leaf], m1 < m2 ? m2 : m1);
        }

        int deadline(int leaf) {
            int slot = leaf * CURVES + GRANT;
            return curves.reached(slot, granted[leaf] + sizeOf(leaf, 0), curves.m1[slot]);
        }

        int fitOf(int cls) {
            weighFits();
            return fit[cls];
        }

        /** A class stands behind the one that it is in: from the last to the first all right in one come ahead of it. */
        private void weighFits() {
            for (int cls = 0; cls <= LINK; cls++) {
                fit[cls] = plan.isLeaf(cls) ? 0 : NEVER;
            }
            for (int cls = plan.classes - 1; cls >= 0; cls--) {
                if (held[cls] > 0) {
                    int slot = cls * CURVES + UPPER;
                    int own = curves.has(slot) ? curves.reached(slot, sent[cls], curves.m1[slot]) : 0;
                    fit[cls] = own > fit[cls] ? own : fit[cls];
                    int in = plan.parent[cls];
                    fit[in] = fit[cls] < fit[in] ? fit[cls] : fit[in];
                }
            }
        }

        /** A packet comes to a leaf. */
        void accept(int leaf, int size) {
            if (held[leaf] >= MOST_PACKETS) {
                lost[leaf]++;
                return;
            }
            queue[leaf * MOST_PACKETS + (head[leaf] + held[leaf]) % MOST_PACKETS] = size;
            int cls = leaf;
            for (int step = 0; step < MOST_CLASSES && cls != LINK; step++) {
                if (held[cls] == 0) {
                    wake(cls);
                }
                held[cls]++;
                cls = plan.parent[cls];
            }
            held[LINK]++;
        }

        private void wake(int cls) {
            int in = plan.parent[cls];
            int least = NEVER * 1000;
            int greatest = NONE;
            for (int i = 0; i < plan.kids[in]; i++) {
                int mate = plan.kid[in * MOST_CLASSES + i];
                if (held[mate] > 0) {
                    least = virtual[mate] < least ? virtual[mate] : least;
                    greatest = virtual[mate] > greatest ? virtual[mate] : greatest;
                }
            }
            int start = greatest == NONE ? peak[in] : (least + greatest) / 2;
            start = virtual[cls] > start ? virtual[cls] : start;
            virtual[cls] = start;
            peak[in] = start > peak[in] ? start : peak[in];
            curves.lay(cls * CURVES + SHARE, start, sent[cls]);
            curves.lay(cls * CURVES + UPPER, time, sent[cls]);
            curves.lay(cls * CURVES + GRANT, time, granted[cls]);
        }

        void pass(int units) {
            int until = time + units;
            for (int step = 0; step < units && time < until; step++) {
                advance(until - time);
            }
        }

        /** Goes on by at least one unit: behind quiet ones at most the last is one in which something happens. */
        void advance(int most) {
            int quiet = quietUnits(most);
            time += quiet;
            busy = busy > quiet ? busy - quiet : 0;
            if (quiet >= most) {
                return;
            }
            for (int flow = 0; flow < plan.flows; flow++) {
                if ((stopped >> flow & 1) == 0 && plan.untilTold(flow, time) == 0) {
                    accept(plan.flowLeaf[flow], flowSize[flow]);
                }
            }
            if (busy == 0 && held[LINK] > 0) {
                int leaf = pickByDeadline();
                if (leaf != NONE) {
                    send(leaf, true);
                } else {
                    send(pickByShare(), false);
                }
            }
            busy -= busy > 0 ? 1 : 0;
            time++;
        }

        private int quietUnits(int most) {
            if (held[LINK] > 0 && busy == 0) {
                return 0;
            }
            int quiet = held[LINK] > 0 && busy < most ? busy : most;
            for (int flow = 0; flow < plan.flows; flow++) {
                if ((stopped >> flow & 1) == 0) {
                    int until = plan.untilTold(flow, time);
                    quiet = until < quiet ? until : quiet;
                }
            }
            return quiet;
        }

        private int pickByDeadline() {
            int best = NONE;
            int least = 0;
            for (int leaf = 0; leaf < plan.classes; leaf++) {
                if (held[leaf] > 0 && curves.has(leaf * CURVES + GRANT) && eligible(leaf) <= time) {
                    int when = deadline(leaf);
                    if (best == NONE || when < least) {
                        best = leaf;
                        least = when;
                    }
                }
            }
            return best;
        }

        private int pickByShare() {
            weighFits();
            int in = LINK;
            for (int step = 0; step <= MOST_CLASSES && plan.kids[in] > 0; step++) {
                int best = NONE;
                for (int i = 0; i < plan.kids[in]; i++) {
                    int cls = plan.kid[in * MOST_CLASSES + i];
                    if (held[cls] > 0 && fit[cls] <= time && (best == NONE || virtual[cls] < virtual[best])) {
                        best = cls;
                    }
                }
                if (best == NONE) {
                    return NONE;
                }
                in = best;
            }
            return in == LINK ? NONE : in;
        }

        private void send(int leaf, boolean goesByGrant) {
            if (leaf == NONE) {
                return;
            }
            int size = sizeOf(leaf, 0);
            granted[leaf] += goesByGrant ? size : 0;
            byGrant += goesByGrant ? 1 : 0;
            head[leaf] = (head[leaf] + 1) % MOST_PACKETS;
            int cls = leaf;
            for (int step = 0; step < MOST_CLASSES && cls != LINK; step++) {
                int in = plan.parent[cls];
                int slot = cls * CURVES + SHARE;
                held[cls]--;
                sent[cls] += size;
                virtual[cls] = curves.reached(slot, sent[cls], curves.m1[slot]);
                peak[in] = virtual[cls] > peak[in] ? virtual[cls] : peak[in];
                cls = in;
            }
            held[LINK]--;
            chosen++;
            last = leaf;
            busy = size;
        }

        void changeCurve(int cls, int curve, int m1, int d, int m2) {
            int slot = cls * CURVES + curve;
            curves.put(slot, m1, d, m2);
            if (held[cls] > 0) {
                curves.lay(slot, curve == SHARE ? virtual[cls] : time, curve == GRANT ? granted[cls] : sent[cls]);
            }
        }

        int emptyQueue(int leaf) {
            int gone = held[leaf];
            int cls = leaf;
            for (int step = 0; step < MOST_CLASSES && cls != LINK; step++) {
                held[cls] -= gone;
                cls = plan.parent[cls];
            }
            held[LINK] -= gone;
            return gone;
        }

        void toggleFlow(int flow) {
            stopped ^= 1 << flow;
        }

        /** The greatest less the least virtual time of those active right in a class or the link. */
        int spreadIn(int in) {
            int least = 0;
            int greatest = NONE;
            for (int i = 0; i < plan.kids[in]; i++) {
                int cls = plan.kid[in * MOST_CLASSES + i];
                if (held[cls] > 0) {
                    least = greatest == NONE || virtual[cls] < least ? virtual[cls] : least;
                    greatest = virtual[cls] > greatest ? virtual[cls] : greatest;
                }
            }
            return greatest == NONE ? 0 : greatest - least;
        }
    }

    /** How the line was ahead of each of the latest acts. */
    private static final class History {
        private final Line[] kept = new Line[MOST_ACTS];
        private int oldest = 0;
        private int many = 0;

        History(Plan plan) {
            for (int i = 0; i < MOST_ACTS; i++) {
                kept[i] = new Line(plan);
            }
        }

        int size() {
            return many;
        }

        void clear() {
            oldest = 0;
            many = 0;
        }

        void keep(Line line) {
            kept[(oldest + many) % MOST_ACTS].copyFrom(line);
            if (many < MOST_ACTS) {
                many++;
            } else {
                oldest = (oldest + 1) % MOST_ACTS;
            }
        }

        void takeBack(Line line) {
            if (many > 0) {
                many--;
                line.copyFrom(kept[(oldest + many) % MOST_ACTS]);
            }
        }

        void copyFrom(History from) {
            oldest = from.oldest;
            many = from.many;
            for (int i = 0; i < many; i++) {
                int place = (oldest + i) % MOST_ACTS;
                kept[place].copyFrom(from.kept[place]);
            }
        }
    }

    /** What is noted, in the order of its units, so that one run of the line comes by all. */
    private static final class Notes {
        int many = 0;
        final int[] cls = new int[MOST_NOTED];
        final int[] units = new int[MOST_NOTED];
        final int[] bytes = new int[MOST_NOTED];

        void clear() {
            many = 0;
        }

        void add(int newCls, int newUnits, int newBytes) {
            if (many >= MOST_NOTED) {
                return;
            }
            int place = many;
            for (int i = many - 1; i >= 0 && units[i] > newUnits; i--) {
                cls[i + 1] = cls[i];
                units[i + 1] = units[i];
                bytes[i + 1] = bytes[i];
                place = i;
            }
            cls[place] = newCls;
            units[place] = newUnits;
            bytes[place] = newBytes;
            many++;
        }

        void copyFrom(Notes from) {
            many = from.many;
            System.arraycopy(from.cls, 0, cls, 0, many);
            System.arraycopy(from.units, 0, units, 0, many);
            System.arraycopy(from.bytes, 0, bytes, 0, many);
        }
    }

    /** Whether the granted curves go together, all in hundredths of a byte. */
    private static final class Grants {
        private final Plan plan;
        private final Line line;
        private int firstOver = NONE;
        private int over = 0;

        Grants(Plan plan, Line line) {
            this.plan = plan;
            this.line = line;
        }

        int answer(int what) {
            weigh(0, 0, 0);
            if (what == 0) {
                return firstOver == NONE ? 1 : 0;
            }
            return what == 1 ? firstOver : over;
        }

        int greatestMore(int d, int m2) {
            for (int m1 = Curves.MOST_M; m1 >= 0; m1--) {
                weigh(m1, d, m2);
                if (firstOver == NONE) {
                    return m1;
                }
            }
            return NONE;
        }

        /** Behind the last bend all is straight: there one division tells the first time over. */
        private void weigh(int moreM1, int moreD, int moreM2) {
            firstOver = NONE;
            over = 0;
            int room = 0;
            for (int t = 0; t <= Curves.MOST_D; t++) {
                room = 100 * t - sumAt(t) - piecesAt(t, moreM1, moreD, moreM2);
                if (room < 0) {
                    firstOver = t;
                    over = -room;
                    return;
                }
            }
            int steeper = sumOfSecond() + moreM2 - 100;
            if (steeper > 0) {
                int steps = room / steeper + 1;
                firstOver = Curves.MOST_D + steps;
                over = steps * steeper - room;
            }
        }

        private int sumAt(int t) {
            int sum = 0;
            for (int cls = 0; cls < plan.classes; cls++) {
                int slot = cls * CURVES + GRANT;
                if (line.curves.has(slot)) {
                    sum += piecesAt(t, line.curves.m1[slot], line.curves.d[slot], line.curves.m2[slot]);
                }
            }
            return sum;
        }

        private int sumOfSecond() {
            int sum = 0;
            for (int cls = 0; cls < plan.classes; cls++) {
                int slot = cls * CURVES + GRANT;
                sum += line.curves.has(slot) ? line.curves.m2[slot] : 0;
            }
            return sum;
        }

        private static int piecesAt(int t, int m1, int d, int m2) {
            return t <= d ? m1 * t : m1 * d + m2 * (t - d);
        }
    }

    /** What comes, if only units go by. */
    private static final class Forecast {
        private static final int FAR = 400;
        // All that come to a leaf in 200 units and find room: one is chosen in a unit at most.
        private static final int MOST_COME = 200 + MOST_PACKETS;

        private final Plan plan;
        private final Line line;
        private final Line later;
        private final int[] came = new int[MOST_COME];

        Forecast(Plan plan, Line line, Line later) {
            this.plan = plan;
            this.line = line;
            this.later = later;
        }

        int behind(int cls, int units, int what) {
            later.copyFrom(line);
            later.pass(units);
            switch (what) {
                case 0: return later.sent[cls];
                case 1: return later.packets(cls);
                case 2: return later.virtual[cls];
                case 3: return later.granted[cls];
                case 4: return later.lost[cls];
                default: return later.isActive(cls) ? 1 : 0;
            }
        }

        int chosenAt(int i, int what) {
            later.copyFrom(line);
            int until = line.time + FAR;
            for (int step = 0; step < FAR && later.time < until; step++) {
                int before = later.byGrant;
                later.advance(until - later.time);
                if (later.chosen - line.chosen == i) {
                    switch (what) {
                        case 0: return later.last;
                        case 1: return later.time - 1;
                        default: return later.byGrant - before;
                    }
                }
            }
            return NONE;
        }

        int waitOf(int leaf) {
            later.copyFrom(line);
            return waitOnLater(leaf, FAR);
        }

        private int waitOnLater(int leaf, int within) {
            int left = line.held[leaf];
            int until = line.time + within;
            for (int step = 0; step < within && later.time < until; step++) {
                int before = later.chosen;
                later.advance(until - later.time);
                if (later.chosen > before && later.last == leaf) {
                    left--;
                    if (left == 0) {
                        return later.time - 1 - line.time;
                    }
                }
            }
            return NONE;
        }

        int longestWait(int leaf, int units) {
            later.copyFrom(line);
            int old = line.held[leaf];
            int in = 0;
            int out = 0;
            int longest = NONE;
            int until = line.time + units;
            for (int step = 0; step < units && later.time < until; step++) {
                int before = later.chosen;
                int waited = later.held[leaf];
                later.advance(until - later.time);
                int now = later.time - 1;
                boolean left = later.chosen > before && later.last == leaf;
                int come = later.held[leaf] - waited + (left ? 1 : 0);
                for (int i = 0; i < come && in < MOST_COME; i++) {
                    came[in] = now;
                    in++;
                }
                if (left && old > 0) {
                    old--;
                } else if (left && out < in) {
                    longest = now - came[out] > longest ? now - came[out] : longest;
                    out++;
                }
            }
            return longest;
        }

        int leastShare(int cls, int bytes, int units) {
            for (int m = 1; m <= Curves.MOST_M; m++) {
                later.copyFrom(line);
                later.changeCurve(cls, SHARE, m, 0, m);
                later.pass(units);
                if (later.sent[cls] - line.sent[cls] >= bytes) {
                    return m;
                }
            }
            return NONE;
        }

        int greatestCap(int cls, int leaf, int units) {
            for (int m = Curves.MOST_M; m >= 1; m--) {
                later.copyFrom(line);
                later.changeCurve(cls, UPPER, m, 0, m);
                if (waitOnLater(leaf, units + 1) != NONE) {
                    return m;
                }
            }
            return NONE;
        }

        int bytesAhead(int leaf, int by) {
            later.copyFrom(line);
            int left = line.held[leaf];
            int sum = 0;
            int until = line.time + FAR;
            for (int step = 0; step < FAR && later.time < until; step++) {
                int before = later.chosen;
                int sentBefore = later.sent[by];
                later.advance(until - later.time);
                if (later.chosen > before && later.last == leaf) {
                    left--;
                    if (left == 0) {
                        return sum;
                    }
                }
                sum += later.sent[by] - sentBefore;
            }
            return sum;
        }

        int widestSpread(int in, int units) {
            later.copyFrom(line);
            int widest = later.spreadIn(in);
            int until = line.time + units;
            for (int step = 0; step < units && later.time < until; step++) {
                later.advance(until - later.time);
                int now = later.spreadIn(in);
                widest = now > widest ? now : widest;
            }
            return widest;
        }
    }

    /** Which other size of one flow agrees with all that is noted. */
    private static final class Guess {
        private static final int LOOK_UNITS = 50;
        // In 50 units less than 50 bytes go ahead of the last packet, which has 64 at most.
        private static final int MOST_SENT = 128;

        private final Plan plan;
        private final Line line;
        private final Line later;
        private final Notes notes;
        int many = 0;
        int first = NONE;
        private final int[] seen = new int[MOST_CLASSES * MOST_SENT];
        private final int[] unlike = new int[MOST_CLASSES];

        Guess(Plan plan, Line line, Line later, Notes notes) {
            this.plan = plan;
            this.line = line;
            this.later = later;
            this.notes = notes;
        }

        boolean holdsWithout() {
            later.copyFrom(line);
            return agrees();
        }

        void tryAll(boolean looks) {
            many = 0;
            first = NONE;
            Arrays.fill(seen, 0);
            Arrays.fill(unlike, 0);
            for (int flow = 0; flow < plan.flows; flow++) {
                for (int size = 1; size <= MOST_SIZE; size++) {
                    if (size != plan.size[flow]) {
                        later.copyFrom(line);
                        later.flowSize[flow] = size;
                        if (agrees()) {
                            take(flow, size, looks);
                        }
                    }
                }
            }
        }

        private void take(int flow, int size, boolean looks) {
            first = many == 0 ? 100 * flow + size : first;
            many++;
            if (looks) {
                later.copyFrom(line);
                later.flowSize[flow] = size;
                later.pass(LOOK_UNITS);
                seeSent();
            }
        }

        private boolean agrees() {
            for (int i = 0; i < notes.many; i++) {
                later.pass(line.time + notes.units[i] - later.time);
                int cls = notes.cls[i];
                if (later.sent[cls] - line.sent[cls] != notes.bytes[i]) {
                    return false;
                }
            }
            return true;
        }

        private void seeSent() {
            for (int cls = 0; cls < plan.classes; cls++) {
                int more = later.sent[cls] - line.sent[cls];
                int place = cls * MOST_SENT + more;
                if (more >= 0 && more < MOST_SENT && seen[place] == 0) {
                    seen[place] = 1;
                    unlike[cls]++;
                }
            }
        }

        int mostUnlike() {
            int best = NONE;
            for (int cls = 0; cls < plan.classes; cls++) {
                if (unlike[cls] > 0 && (best == NONE || unlike[cls] > unlike[best])) {
                    best = cls;
                }
            }
            return best;
        }

        int unlikeOf(int cls) {
            return cls == NONE ? 0 : unlike[cls];
        }
    }

    /** What is likely, and what years by a seed bring. */
    private static final class Chance {
        static final int MOST_STORMS = 5;
        private static final int STORM_UNITS = 100;

        private final Plan plan;
        private final Line line;
        private final Line later;
        private int seed = 0;

        Chance(Plan plan, Line line, Line later) {
            this.plan = plan;
            this.line = line;
            this.later = later;
        }

        int likelyAtMost(int flow, int packets, int tenths, int most) {
            int sum = 0;
            for (int way = 0; way < 1 << packets; way++) {
                int weight = 1;
                for (int i = 0; i < packets; i++) {
                    weight *= (way >> i & 1) != 0 ? tenths : 10 - tenths;
                }
                if (weight > 0 && heldBehind(flow, packets, way) <= most) {
                    sum += weight;
                }
            }
            return sum;
        }

        /** A packet that isn't told after all: in its unit it is as if the flow was stopped. */
        private int heldBehind(int flow, int packets, int way) {
            later.copyFrom(line);
            int until = line.time + STORM_UNITS;
            boolean tells = (line.stopped >> flow & 1) == 0;
            for (int i = 0; i < packets && tells; i++) {
                int ahead = plan.untilTold(flow, later.time);
                tells = ahead < until - later.time;
                if (tells) {
                    later.pass(ahead);
                    int before = later.stopped;
                    later.stopped |= (way >> i & 1) << flow;
                    later.pass(1);
                    later.stopped = before;
                }
            }
            later.pass(until - later.time);
            return later.held[LINK];
        }

        int liveThrough(int newSeed, int n, int what) {
            seed = newSeed;
            later.copyFrom(line);
            int most = 0;
            for (int year = 0; year < n; year++) {
                happen(draw(6));
                later.pass(10);
                most = later.held[LINK] > most ? later.held[LINK] : most;
            }
            switch (what) {
                case 0: return later.allSent() - line.allSent();
                case 1: return later.allLost() - line.allLost();
                default: return most;
            }
        }

        private void happen(int event) {
            if (event <= 2 && plan.classes > 0) {
                happenTo(draw(plan.classes), event);
            }
            if (event == 3 && plan.flows > 0) {
                later.toggleFlow(draw(plan.flows));
            }
        }

        private void happenTo(int cls, int event) {
            if (event == 0) {
                int size = draw(MOST_SIZE) + 1;
                if (plan.isLeaf(cls)) {
                    later.accept(cls, size);
                }
            } else if (event == 1) {
                int m = draw(100) + 1;
                later.changeCurve(cls, SHARE, m, 0, m);
            } else if (later.packets(cls) > 0) {
                later.emptyQueue(cls);
            }
        }

        private int draw(int n) {
            seed = seed * 1103515245 + 12345;
            return n > 0 ? ((seed >>> 16) & 32767) % n : 0;
        }
    }

    /** Writes a class as a clause that tells it as it is. */
    private static final class Teller {
        // 'class in 11' and three curves of three numbers of three digits have less.
        private static final int MOST_SIGNS = 96;

        final int[] signs = new int[MOST_SIGNS];
        int length = 0;

        void tell(int cls, Plan plan, Curves curves) {
            length = 0;
            putText("class");
            if (plan.parent[cls] != LINK) {
                putText(" in");
                putNumber(plan.parent[cls]);
            }
            for (int curve = 0; curve < CURVES; curve++) {
                int slot = cls * CURVES + curve;
                if (curves.has(slot)) {
                    putText(curve == GRANT ? " grant" : curve == SHARE ? " share" : " upper");
                    putNumber(curves.m1[slot]);
                    putNumber(curves.d[slot]);
                    putNumber(curves.m2[slot]);
                }
            }
            putText(";");
        }

        private void putText(String text) {
            for (int i = 0; i < text.length(); i++) {
                putSign(text.charAt(i));
            }
        }

        private void putNumber(int number) {
            putSign(' ');
            if (number >= 100) {
                putSign('0' + number / 100 % 10);
            }
            if (number >= 10) {
                putSign('0' + number / 10 % 10);
            }
            putSign('0' + number % 10);
        }

        private void putSign(int sign) {
            if (length < MOST_SIGNS) {
                signs[length] = sign;
                length++;
            }
        }
    }
}
