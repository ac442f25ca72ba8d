import java.util.Arrays;

/**
 * A switching office of a net that is fed at a few places. What each call must
 * answer stands in DOC.md; its words in capitals are used here in the same sense.
 */
public final class TieOffice {
    public static final int NONE = -1, BAD = -2, NO = -3, FULL = -4, SPENT = -5;

    private static final int MOST_PLACES = 16;
    private static final int MOST_LINES = 24;
    private static final int MOST_FEEDERS = 4;
    private static final int MOST_LOAD = 99;
    private static final int MOST_BYTES = 200;
    private static final int MOST_STATES = 6;
    private static final int MOST_DEPTH = 9;
    private static final int MOST_SHAPES = 300;
    private static final int MOST_CURE_TIES = 12;
    private static final int FAULT_BASE = -10;
    /** Far above the steps that a falling LOSS can take; it only makes the end visible. */
    private static final int MANY = 1000000;

    private final int[] refused = new int[4];
    private final int[] text = new int[MOST_BYTES];
    private int textLength;
    private final Net net = new Net();
    private final Flow flow = new Flow();
    private final Flow trial = new Flow();
    private final Past past = new Past();
    private final Reader reader = new Reader();
    private final Ring tieRing = new Ring();
    private final Survey survey = new Survey();
    private final Search search = new Search();
    private final Relight relight = new Relight();

    public TieOffice() {
        textLength = 0;
        settle();
    }

    // ---- texts

    public int type(int c) {
        if (c < 0 || c > 127) {
            return refuse(BAD);
        }
        if (textLength >= MOST_BYTES) {
            return refuse(FULL);
        }
        text[textLength] = c;
        textLength++;
        return textLength;
    }

    public int clear() {
        int had = textLength;
        textLength = 0;
        return had;
    }

    public int reads() {
        int fault = reader.parse(text, textLength);
        if (fault != NONE) {
            return FAULT_BASE - fault;
        }
        past.keep(net);
        net.copyOf(reader.fresh);
        settle();
        return reader.items;
    }

    // ---- lines, places

    public int line(int l, int what) {
        if (!net.hasLine(l)) {
            return refuse(BAD);
        }
        switch (what) {
            case 0:
                return net.first[l];
            case 1:
                return net.second[l];
            case 2:
                return net.resistance[l];
            case 3:
                return net.limit[l];
            case 4:
                return condition(l);
            case 5:
                return flow.onLine[l];
            case 6:
                return flow.nearer[l];
            case 7:
                return flow.over >> l & 1;
            default:
                return refuse(BAD);
        }
    }

    public int place(int v, int what) {
        if (!net.hasPlace(v)) {
            return refuse(BAD);
        }
        boolean lit = flow.isLit(v);
        switch (what) {
            case 0:
                return net.isFeeder(v) ? NONE : net.loads[v];
            case 1:
                return lit ? flow.root[v] : NONE;
            case 2:
                return lit ? flow.by[v] : NONE;
            case 3:
                return lit ? flow.steps[v] : NONE;
            case 4:
                return lit ? flow.below[v] : 0;
            default:
                return refuse(BAD);
        }
    }

    public int between(int v, int w) {
        if (!net.hasPlace(v) || !net.hasPlace(w)) {
            return refuse(BAD);
        }
        return net.joining(v, w);
    }

    public int load(int v, int n) {
        if (!net.hasPlace(v) || n < 0 || n > MOST_LOAD) {
            return refuse(BAD);
        }
        int was = net.loads[v];
        if (net.isFeeder(v) || was == n) {
            return refuse(NO);
        }
        net.loads[v] = n;
        trial.work(net, net.closed);
        net.loads[v] = was;
        if (!trial.bearsBehind(flow)) {
            return refuse(FULL);
        }
        past.keep(net);
        net.loads[v] = n;
        settle();
        return was;
    }

    // ---- switching

    public int closes(int l) {
        if (!net.hasLine(l)) {
            return refuse(BAD);
        }
        if (!net.isTie(l, net.closed)) {
            return refuse(NO);
        }
        trial.work(net, net.closed | 1 << l);
        if (!trial.radial) {
            return refuse(NO);
        }
        if (!trial.bearsBehind(flow)) {
            return refuse(FULL);
        }
        int before = flow.litLoad;
        past.keep(net);
        net.closed |= 1 << l;
        settle();
        return flow.litLoad - before;
    }

    public int opens(int l) {
        if (!net.hasLine(l)) {
            return refuse(BAD);
        }
        if ((net.closed >> l & 1) == 0) {
            return refuse(NO);
        }
        int before = flow.litLoad;
        past.keep(net);
        net.closed &= ~(1 << l);
        settle();
        return before - flow.litLoad;
    }

    public int falls(int l) {
        if (!net.hasLine(l)) {
            return refuse(BAD);
        }
        if ((net.dead >> l & 1) != 0) {
            return refuse(NO);
        }
        int before = flow.litLoad;
        past.keep(net);
        net.closed &= ~(1 << l);
        net.dead |= 1 << l;
        settle();
        return before - flow.litLoad;
    }

    public int mends(int l) {
        if (!net.hasLine(l)) {
            return refuse(BAD);
        }
        if ((net.dead >> l & 1) == 0) {
            return refuse(NO);
        }
        past.keep(net);
        net.dead &= ~(1 << l);
        settle();
        return Integer.bitCount(net.dead);
    }

    // ---- exchanges

    public int ring(int t, int k) {
        if (!net.hasLine(t) || k < 0) {
            return refuse(BAD);
        }
        if (!net.isTie(t, net.closed)) {
            return refuse(NO);
        }
        tieRing.find(net, flow, t);
        return k < tieRing.size ? tieRing.lines[k] : NONE;
    }

    public long gain(int t, int l) {
        if (!net.hasLine(t) || !net.hasLine(l)) {
            return refuse(BAD);
        }
        int at = placeOnRing(t, l);
        if (at == NONE) {
            return refuse(NO);
        }
        return tieRing.gainAt(net, at);
    }

    public int exchanges(int t, int l) {
        if (!net.hasLine(t) || !net.hasLine(l)) {
            return refuse(BAD);
        }
        int at = placeOnRing(t, l);
        if (at == NONE) {
            return refuse(NO);
        }
        if (!tieRing.bearsAt(net, at)) {
            return refuse(FULL);
        }
        past.keep(net);
        swap(t, l);
        survey.look(net, flow);
        return survey.helpful;
    }

    public int best(int what) {
        if (what < 0 || what > 1) {
            return refuse(BAD);
        }
        survey.look(net, flow);
        return what == 0 ? survey.bestTie : survey.bestLine;
    }

    public int lessens() {
        survey.look(net, flow);
        if (survey.bestTie == NONE) {
            return refuse(NO);
        }
        past.keep(net);
        int done = 0;
        while (done < MANY && survey.bestTie != NONE) {
            swap(survey.bestTie, survey.bestLine);
            survey.look(net, flow);
            done++;
        }
        return done;
    }

    public long reach(int n, int what) {
        if (n < 0 || n > MOST_DEPTH || what < 0 || what > 2) {
            return refuse(BAD);
        }
        search.explore(net, n);
        if (search.spent) {
            return refuse(SPENT);
        }
        if (what == 0) {
            return search.count;
        }
        return what == 1 ? search.leastLoss : search.leastShape;
    }

    // ---- the dark

    public int cure(int what, int k) {
        if (what < 0 || what > 3 || k < 0) {
            return refuse(BAD);
        }
        if (!relight.find(net, flow)) {
            return refuse(SPENT);
        }
        switch (what) {
            case 0:
                return relight.ties;
            case 1:
                return relight.tieCount;
            case 2:
                return relight.litLoad;
            default:
                return relight.inOrder(net, k);
        }
    }

    public int cures() {
        if (!relight.find(net, flow)) {
            return refuse(SPENT);
        }
        if (relight.tieCount == 0) {
            return refuse(NO);
        }
        past.keep(net);
        net.closed |= relight.ties;
        settle();
        return relight.tieCount;
    }

    // ---- what is told

    public long all(int what) {
        switch (what) {
            case 0:
                return flow.loss;
            case 1:
                return flow.litLoad;
            case 2:
                return net.loadOf(net.there & ~flow.lit);
            case 3:
                return Integer.bitCount(net.tiesOf(net.closed));
            case 4:
                return Integer.bitCount(net.dead);
            case 5:
                return Integer.bitCount(net.there & ~flow.lit);
            case 6:
                return Integer.bitCount(flow.over);
            case 7:
                return flow.lossUnder(net, flow.heaviestFeeder(net));
            default:
                return refuse(BAD);
        }
    }

    public int back() {
        if (past.count == 0) {
            return refuse(NO);
        }
        past.giveBack(net);
        settle();
        return past.count;
    }

    public int told(int what) {
        switch (what) {
            case 0:
            case 1:
            case 2:
            case 3:
                return refused[what];
            case 4:
                return textLength;
            case 5:
                return Integer.bitCount(net.there);
            case 6:
                return net.lines;
            case 7:
                return past.count;
            default:
                return refuse(BAD);
        }
    }

    public long digest() {
        long h = 2267;
        for (int i = 0; i <= 7; i++) {
            h = 31 * h + told(i);
        }
        for (int v = 0; v < MOST_PLACES; v++) {
            if (net.hasPlace(v)) {
                h = 31 * h + v;
                for (int i = 0; i <= 4; i++) {
                    h = 31 * h + place(v, i);
                }
            }
        }
        for (int l = 0; l < net.lines; l++) {
            for (int i = 0; i <= 7; i++) {
                h = 31 * h + line(l, i);
            }
        }
        for (int i = 0; i <= 7; i++) {
            h = 31 * h + all(i);
        }
        return h;
    }

    private int refuse(int why) {
        int kind = BAD - why;
        if (kind >= 0 && kind < refused.length) {
            refused[kind]++;
        }
        return why;
    }

    /** Every change of the net ends here, so that the questions can answer from one reckoning. */
    private void settle() {
        flow.work(net, net.closed);
        search.forget();
        relight.forget();
    }

    private int condition(int l) {
        if ((net.dead >> l & 1) != 0) {
            return 2;
        }
        return net.closed >> l & 1;
    }

    /** Where l stands on the RING of t; NONE if t is no TIE, too. The RING is left in tieRing. */
    private int placeOnRing(int t, int l) {
        if (!net.isTie(t, net.closed)) {
            return NONE;
        }
        tieRing.find(net, flow, t);
        return tieRing.whereIs(l);
    }

    private void swap(int t, int l) {
        net.closed = exchanged(net.closed, t, l);
        settle();
    }

    private static int exchanged(int shape, int t, int l) {
        return (shape | 1 << t) & ~(1 << l);
    }

    /** All that a STATE holds. PLACES and LINES are bits where sets of them are meant. */
    private static final class Net {
        int there = 0;
        int feeders = 0;
        int lines = 0;
        int closed = 0;
        int dead = 0;
        final int[] loads = new int[MOST_PLACES];
        final int[] first = new int[MOST_LINES];
        final int[] second = new int[MOST_LINES];
        final int[] resistance = new int[MOST_LINES];
        final int[] limit = new int[MOST_LINES];
        /** The LINES at PLACE v are touching[start[v]] up to touching[start[v + 1] - 1]. */
        final int[] start = new int[MOST_PLACES + 1];
        final int[] touching = new int[2 * MOST_LINES];

        void wipe() {
            there = 0;
            feeders = 0;
            lines = 0;
            closed = 0;
            dead = 0;
            Arrays.fill(loads, 0);
        }

        void copyOf(Net other) {
            there = other.there;
            feeders = other.feeders;
            lines = other.lines;
            closed = other.closed;
            dead = other.dead;
            System.arraycopy(other.loads, 0, loads, 0, MOST_PLACES);
            System.arraycopy(other.first, 0, first, 0, MOST_LINES);
            System.arraycopy(other.second, 0, second, 0, MOST_LINES);
            System.arraycopy(other.resistance, 0, resistance, 0, MOST_LINES);
            System.arraycopy(other.limit, 0, limit, 0, MOST_LINES);
            System.arraycopy(other.start, 0, start, 0, MOST_PLACES + 1);
            System.arraycopy(other.touching, 0, touching, 0, 2 * MOST_LINES);
        }

        /** Lists the LINES by PLACE, so that a walk need not look through all of them. */
        void listTouching() {
            int filled = 0;
            for (int v = 0; v < MOST_PLACES; v++) {
                start[v] = filled;
                for (int l = 0; l < lines; l++) {
                    if ((first[l] == v || second[l] == v) && filled < touching.length) {
                        touching[filled] = l;
                        filled++;
                    }
                }
            }
            start[MOST_PLACES] = filled;
        }

        boolean hasPlace(int v) {
            return v >= 0 && v < MOST_PLACES && (there >> v & 1) != 0;
        }

        boolean hasLine(int l) {
            return l >= 0 && l < lines;
        }

        boolean isFeeder(int v) {
            return (feeders >> v & 1) != 0;
        }

        int tiesOf(int shape) {
            return (1 << lines) - 1 & ~shape & ~dead;
        }

        boolean isTie(int l, int shape) {
            return (tiesOf(shape) >> l & 1) != 0;
        }

        int otherEnd(int l, int v) {
            return first[l] == v ? second[l] : first[l];
        }

        int joining(int v, int w) {
            for (int l = 0; l < lines; l++) {
                if (first[l] == v && second[l] == w || first[l] == w && second[l] == v) {
                    return l;
                }
            }
            return NONE;
        }

        int loadOf(int set) {
            int sum = 0;
            for (int v = 0; v < MOST_PLACES; v++) {
                if ((set >> v & 1) != 0) {
                    sum += loads[v];
                }
            }
            return sum;
        }
    }

    /** The STATES to go back to, the newest last. */
    private static final class Past {
        final Net[] kept = new Net[MOST_STATES];
        int count = 0;

        Past() {
            for (int i = 0; i < MOST_STATES; i++) {
                kept[i] = new Net();
            }
        }

        void keep(Net net) {
            if (count >= MOST_STATES) {
                dropOldest();
            }
            Net row = kept[count];
            if (row != null) {
                row.copyOf(net);
                count++;
            }
        }

        void giveBack(Net net) {
            if (count < 1) {
                return;
            }
            count--;
            Net row = kept[count];
            if (row != null) {
                net.copyOf(row);
            }
        }

        /** The oldest row is used again as the newest: nothing is made by a call. */
        private void dropOldest() {
            Net oldest = kept[0];
            for (int i = 1; i < MOST_STATES; i++) {
                kept[i - 1] = kept[i];
            }
            kept[MOST_STATES - 1] = oldest;
            count = MOST_STATES - 1;
        }
    }

    /** Reads THE TEXT into a net of its own, which is worth something only without a FAULT. */
    private static final class Reader {
        /** What all FEEDERS share, so that joining two of them looks like any other ring. */
        private static final int FED = MOST_PLACES;

        final Net fresh = new Net();
        int items = 0;
        private final int[] group = new int[MOST_PLACES];
        private int[] bytes;
        private int length = 0;
        private int at = 0;
        private int ringAt = NONE;

        /** The FAULT; NONE without one. */
        int parse(int[] text, int textLength) {
            fresh.wipe();
            bytes = text;
            length = textLength;
            at = 0;
            items = 0;
            ringAt = NONE;
            boolean whole = true;
            while (whole && at < length && items < MOST_BYTES) {
                whole = item();
                if (whole) {
                    items++;
                }
            }
            fresh.listTouching();
            if (!whole && at < length) {
                return at;
            }
            if (ringAt != NONE) {
                return ringAt;
            }
            return whole ? NONE : length;
        }

        /** False where a byte can not stand, or is missing: at is its place then. */
        private boolean item() {
            int c = next();
            if (c == '+' || c == '-') {
                return lineItem(c == '+');
            }
            return placeItem(c - 'a');
        }

        private boolean placeItem(int v) {
            if (v < 0 || v >= MOST_PLACES || fresh.hasPlace(v)) {
                return false;
            }
            at++;
            if (next() == ';') {
                return feederEnd(v);
            }
            int load = figures(2);
            if (load == NONE || !skip(';')) {
                return false;
            }
            fresh.there |= 1 << v;
            fresh.loads[v] = load;
            group[v] = v;
            return true;
        }

        private boolean feederEnd(int v) {
            if (Integer.bitCount(fresh.feeders) >= MOST_FEEDERS) {
                return false;
            }
            at++;
            fresh.there |= 1 << v;
            fresh.feeders |= 1 << v;
            group[v] = FED;
            return true;
        }

        private boolean lineItem(boolean isClosed) {
            int l = fresh.lines;
            if (l >= MOST_LINES) {
                return false;
            }
            int sign = at;
            at++;
            int v = next() - 'a';
            if (!fresh.hasPlace(v)) {
                return false;
            }
            at++;
            int w = next() - 'a';
            if (!fresh.hasPlace(w) || w == v || fresh.joining(v, w) != NONE) {
                return false;
            }
            at++;
            if (next() == '0') {
                return false;
            }
            int resistance = figures(2);
            if (resistance == NONE || !skip(',')) {
                return false;
            }
            int limit = figures(3);
            if (limit == NONE || !skip(';')) {
                return false;
            }
            fresh.first[l] = v;
            fresh.second[l] = w;
            fresh.resistance[l] = resistance;
            fresh.limit[l] = limit;
            fresh.lines = l + 1;
            if (isClosed) {
                join(l, sign);
            }
            return true;
        }

        private void join(int l, int sign) {
            int kept = group[fresh.first[l]];
            int lost = group[fresh.second[l]];
            fresh.closed |= 1 << l;
            if (kept == lost) {
                if (ringAt == NONE) {
                    ringAt = sign;
                }
                return;
            }
            if (lost == FED) {
                lost = kept;
                kept = FED;
            }
            for (int v = 0; v < MOST_PLACES; v++) {
                if (group[v] == lost) {
                    group[v] = kept;
                }
            }
        }

        /** One figure at least and so many at most; NONE without one. */
        private int figures(int most) {
            int value = NONE;
            for (int i = 0; i < most; i++) {
                int c = next();
                if (c < '0' || c > '9') {
                    return value;
                }
                value = (value == NONE ? 0 : 10 * value) + c - '0';
                at++;
            }
            return value;
        }

        private boolean skip(int c) {
            if (next() != c) {
                return false;
            }
            at++;
            return true;
        }

        private int next() {
            if (bytes == null || at < 0 || at >= length || at >= bytes.length) {
                return NONE;
            }
            return bytes[at];
        }
    }

    /** What a SHAPE of a net carries and loses. Dark trees are walked too, for rings among them. */
    private static final class Flow {
        int closed = 0;
        boolean radial = true;
        int lit = 0;
        int over = 0;
        int litLoad = 0;
        long loss = 0;
        /** Of LIT PLACES the FEEDER, of DARK ones the lowest PLACE that they are joined with. */
        final int[] root = new int[MOST_PLACES];
        final int[] by = new int[MOST_PLACES];
        final int[] steps = new int[MOST_PLACES];
        final int[] below = new int[MOST_PLACES];
        final int[] onLine = new int[MOST_LINES];
        final int[] nearer = new int[MOST_LINES];
        private final int[] queue = new int[MOST_PLACES];
        private int queued = 0;
        private int seen = 0;

        void work(Net net, int shape) {
            closed = shape;
            radial = true;
            queued = 0;
            seen = 0;
            for (int v = 0; v < MOST_PLACES; v++) {
                if (net.isFeeder(v)) {
                    enqueue(v, v, NONE, 0);
                }
            }
            growFrom(net, 0);
            lit = seen;
            int litCount = queued;
            for (int v = 0; v < MOST_PLACES; v++) {
                if ((net.there & ~seen & 1 << v) != 0) {
                    enqueue(v, v, NONE, 0);
                    growFrom(net, queued - 1);
                }
            }
            carry(net, litCount);
            weigh(net);
        }

        boolean isLit(int v) {
            return (lit >> v & 1) != 0;
        }

        /** Whether a change from the one ahead to this BEARS. */
        boolean bearsBehind(Flow ahead) {
            return (over & ~ahead.over) == 0;
        }

        /** Whether closed LINES lead from one to the other, all FEEDERS taken for one PLACE. */
        boolean areJoined(int v, int w) {
            if (isLit(v) || isLit(w)) {
                return isLit(v) && isLit(w);
            }
            return root[v] == root[w];
        }

        int heaviestFeeder(Net net) {
            int found = NONE;
            for (int v = 0; v < MOST_PLACES; v++) {
                if (net.isFeeder(v) && (found == NONE || below[v] > below[found])) {
                    found = v;
                }
            }
            return found;
        }

        long lossUnder(Net net, int feeder) {
            long sum = 0;
            for (int l = 0; l < net.lines; l++) {
                int v = nearer[l];
                if (v != NONE && root[v] == feeder) {
                    sum += lossOn(net, l);
                }
            }
            return sum;
        }

        private void growFrom(Net net, int begin) {
            for (int i = begin; i < queued && i < MOST_PLACES; i++) {
                spread(net, queue[i]);
            }
        }

        private void spread(Net net, int v) {
            for (int i = net.start[v]; i < net.start[v + 1]; i++) {
                int l = net.touching[i];
                if ((closed >> l & 1) == 0 || l == by[v]) {
                    continue;
                }
                int w = net.otherEnd(l, v);
                if ((seen >> w & 1) != 0) {
                    radial = false;
                } else {
                    enqueue(w, root[v], l, steps[v] + 1);
                }
            }
        }

        private void enqueue(int v, int from, int line, int depth) {
            if (queued >= MOST_PLACES) {
                return;
            }
            queue[queued] = v;
            queued++;
            seen |= 1 << v;
            root[v] = from;
            by[v] = line;
            steps[v] = depth;
        }

        /** From the far ends inwards, so that what hangs below a PLACE is known before it is. */
        private void carry(Net net, int litCount) {
            Arrays.fill(onLine, 0);
            Arrays.fill(nearer, NONE);
            System.arraycopy(net.loads, 0, below, 0, MOST_PLACES);
            litLoad = 0;
            for (int i = litCount - 1; i >= 0; i--) {
                int v = queue[i];
                litLoad += net.loads[v];
                int l = by[v];
                if (l != NONE) {
                    int u = net.otherEnd(l, v);
                    below[u] += below[v];
                    onLine[l] = below[v];
                    nearer[l] = u;
                }
            }
        }

        private void weigh(Net net) {
            loss = 0;
            over = 0;
            for (int l = 0; l < net.lines; l++) {
                loss += lossOn(net, l);
                if (onLine[l] > net.limit[l]) {
                    over |= 1 << l;
                }
            }
        }

        private long lossOn(Net net, int l) {
            return (long) net.resistance[l] * onLine[l] * onLine[l];
        }
    }

    /**
     * The RING of a TIE. An EXCHANGE changes FLOWS on the RING alone: counted with a
     * sign, round the ring, all of them shift by that of the LINE which is opened.
     */
    private static final class Ring {
        int size = 0;
        final int[] lines = new int[MOST_PLACES];
        /** FLOW, of LINES between the first PLACE and the turn above 0, behind the turn below 0. */
        private final int[] signed = new int[MOST_PLACES];
        private final int[] secondSide = new int[MOST_PLACES];
        private int tie = 0;

        void find(Net net, Flow flow, int t) {
            tie = t;
            size = 0;
            int u = net.first[t];
            int w = net.second[t];
            if (!flow.areJoined(u, w)) {
                return;
            }
            int behind = 0;
            for (int i = 0; i < 2 * MOST_PLACES && !meet(flow, u, w); i++) {
                if (flow.steps[u] >= flow.steps[w]) {
                    int l = flow.by[u];
                    add(l, 1, flow);
                    u = l == NONE ? u : net.otherEnd(l, u);
                } else {
                    int l = flow.by[w];
                    if (l != NONE && behind < MOST_PLACES) {
                        secondSide[behind] = l;
                        behind++;
                        w = net.otherEnd(l, w);
                    }
                }
            }
            for (int i = behind - 1; i >= 0; i--) {
                add(secondSide[i], -1, flow);
            }
        }

        int whereIs(int l) {
            for (int i = 0; i < size; i++) {
                if (lines[i] == l) {
                    return i;
                }
            }
            return NONE;
        }

        /** GAIN, if the LINE at this place of the RING is opened. */
        long gainAt(Net net, int at) {
            long shift = signed[at];
            long sum = -net.resistance[tie] * shift * shift;
            for (int i = 0; i < size; i++) {
                long before = signed[i];
                long behind = before - shift;
                sum += net.resistance[lines[i]] * (before * before - behind * behind);
            }
            return sum;
        }

        boolean bearsAt(Net net, int at) {
            int shift = signed[at];
            if (Math.abs(shift) > net.limit[tie]) {
                return false;
            }
            for (int i = 0; i < size; i++) {
                int limit = net.limit[lines[i]];
                if (Math.abs(signed[i] - shift) > limit && Math.abs(signed[i]) <= limit) {
                    return false;
                }
            }
            return true;
        }

        /** Two roots of joined trees are one PLACE: the same one, or FEEDERS. */
        private static boolean meet(Flow flow, int u, int w) {
            return u == w || flow.steps[u] == 0 && flow.steps[w] == 0;
        }

        private void add(int l, int sign, Flow flow) {
            if (l == NONE || size >= MOST_PLACES) {
                return;
            }
            lines[size] = l;
            signed[size] = sign * flow.onLine[l];
            size++;
        }
    }

    /** All EXCHANGES that MAY be and help, and the BEST of them. */
    private static final class Survey {
        int helpful = 0;
        int bestTie = NONE;
        int bestLine = NONE;
        private long bestGain = 0;
        private final Ring ringOfTie = new Ring();

        void look(Net net, Flow flow) {
            helpful = 0;
            bestTie = NONE;
            bestLine = NONE;
            bestGain = 0;
            for (int t = 0; t < net.lines; t++) {
                if (net.isTie(t, flow.closed)) {
                    ringOfTie.find(net, flow, t);
                    lookRound(net, t);
                }
            }
        }

        private void lookRound(Net net, int t) {
            for (int i = 0; i < ringOfTie.size; i++) {
                long found = ringOfTie.gainAt(net, i);
                if (found > 0 && ringOfTie.bearsAt(net, i)) {
                    helpful++;
                    compare(t, ringOfTie.lines[i], found);
                }
            }
        }

        /** TIES come rising, the LINES of a RING do not. */
        private void compare(int t, int l, long found) {
            boolean lower = found == bestGain && t == bestTie && l < bestLine;
            if (found > bestGain || lower) {
                bestGain = found;
                bestTie = t;
                bestLine = l;
            }
        }
    }

    /** The SHAPES that are REACHED, in the order of the fewest EXCHANGES to them. */
    private static final class Search {
        private static final int SLOTS = 512;
        private static final int SLOT_SHIFT = 23;

        int count = 0;
        boolean spent = false;
        long leastLoss = 0;
        int leastShape = 0;
        private final int[] shapes = new int[MOST_SHAPES];
        /** One more than the number of the SHAPE that lies there; 0: none. */
        private final int[] slots = new int[SLOTS];
        private final Flow shapeFlow = new Flow();
        private final Ring ringOfTie = new Ring();
        /** For how many EXCHANGES the answers stand; NONE: for none. */
        private int known = NONE;

        void forget() {
            known = NONE;
        }

        void explore(Net net, int n) {
            if (known == n) {
                return;
            }
            known = n;
            count = 0;
            spent = false;
            Arrays.fill(slots, 0);
            shapeFlow.work(net, net.closed);
            leastLoss = shapeFlow.loss;
            leastShape = net.closed;
            add(net.closed, shapeFlow.loss);
            int from = 0;
            for (int depth = 0; depth < n && !spent; depth++) {
                int to = count;
                for (int i = from; i < to && i < MOST_SHAPES && !spent; i++) {
                    leave(net, shapes[i]);
                }
                from = to;
            }
        }

        private void leave(Net net, int shape) {
            shapeFlow.work(net, shape);
            for (int t = 0; t < net.lines && !spent; t++) {
                if (net.isTie(t, shape)) {
                    ringOfTie.find(net, shapeFlow, t);
                    leaveRound(net, t);
                }
            }
        }

        private void leaveRound(Net net, int t) {
            for (int i = 0; i < ringOfTie.size; i++) {
                int reached = exchanged(shapeFlow.closed, t, ringOfTie.lines[i]);
                if (slots[slotOf(reached)] == 0 && ringOfTie.bearsAt(net, i)) {
                    add(reached, shapeFlow.loss - ringOfTie.gainAt(net, i));
                }
            }
        }

        private void add(int shape, long loss) {
            if (count >= MOST_SHAPES) {
                spent = true;
                return;
            }
            shapes[count] = shape;
            count++;
            slots[slotOf(shape)] = count;
            if (loss < leastLoss || loss == leastLoss && shape < leastShape) {
                leastLoss = loss;
                leastShape = shape;
            }
        }

        /** Where the SHAPE lies, or the free slot where it would; there are always free ones. */
        private int slotOf(int shape) {
            int slot = shape * 0x9E3779B1 >>> SLOT_SHIFT;
            for (int i = 0; i < SLOTS; i++) {
                int number = slots[slot];
                if (number == 0 || number <= MOST_SHAPES && shapes[number - 1] == shape) {
                    return slot;
                }
                slot = slot + 1 & SLOTS - 1;
            }
            return slot;
        }
    }

    /** CURE and its ORDER. */
    private static final class Relight {
        int ties = 0;
        int tieCount = 0;
        int litLoad = 0;
        private final int[] candidates = new int[MOST_CURE_TIES];
        private int candidateCount = 0;
        /** A bit for each set of candidates: whether it leaves the net RADIAL and BEARS. */
        private final int[] sound = new int[(1 << MOST_CURE_TIES) / 32];
        private final Flow setFlow = new Flow();
        private boolean known = false;
        private boolean spent = false;

        void forget() {
            known = false;
        }

        /** False if there are too many TIES to look at. */
        boolean find(Net net, Flow now) {
            if (known) {
                return !spent;
            }
            known = true;
            spent = !gather(net, now);
            if (spent) {
                return false;
            }
            Arrays.fill(sound, 0);
            ties = 0;
            tieCount = 0;
            litLoad = now.litLoad;
            note(0);
            for (int set = 1; set < 1 << candidateCount; set++) {
                // More TIES never take a ring away or a FLOW down, so a set stands only on a sound one.
                if (isSound(set & set - 1)) {
                    tryOut(net, now, set);
                }
            }
            return true;
        }

        int inOrder(Net net, int k) {
            int left = ties;
            int shape = net.closed;
            for (int i = 0; i < tieCount; i++) {
                setFlow.work(net, shape);
                int t = lowestAtLight(net, left);
                if (t == NONE || i == k) {
                    return t;
                }
                left &= ~(1 << t);
                shape |= 1 << t;
            }
            return NONE;
        }

        private int lowestAtLight(Net net, int left) {
            for (int t = 0; t < net.lines; t++) {
                boolean isLeft = (left >> t & 1) != 0;
                if (isLeft && (setFlow.isLit(net.first[t]) || setFlow.isLit(net.second[t]))) {
                    return t;
                }
            }
            return NONE;
        }

        private boolean gather(Net net, Flow now) {
            candidateCount = 0;
            for (int t = 0; t < net.lines; t++) {
                boolean allLit = now.isLit(net.first[t]) && now.isLit(net.second[t]);
                if (allLit || !net.isTie(t, net.closed)) {
                    continue;
                }
                if (candidateCount >= MOST_CURE_TIES) {
                    return false;
                }
                candidates[candidateCount] = t;
                candidateCount++;
            }
            return true;
        }

        private void tryOut(Net net, Flow now, int set) {
            int lines = linesOf(set);
            setFlow.work(net, net.closed | lines);
            if (!setFlow.radial || !setFlow.bearsBehind(now)) {
                return;
            }
            note(set);
            int size = Integer.bitCount(set);
            // Sets come rising, and so do their bits: of like ones the first stays.
            if (setFlow.litLoad > litLoad || setFlow.litLoad == litLoad && size < tieCount) {
                ties = lines;
                tieCount = size;
                litLoad = setFlow.litLoad;
            }
        }

        private int linesOf(int set) {
            int lines = 0;
            for (int i = 0; i < candidateCount; i++) {
                if ((set >> i & 1) != 0) {
                    lines |= 1 << candidates[i];
                }
            }
            return lines;
        }

        private void note(int set) {
            int row = set >> 5;
            if (row >= 0 && row < sound.length) {
                sound[row] |= 1 << (set & 31);
            }
        }

        private boolean isSound(int set) {
            int row = set >> 5;
            return row >= 0 && row < sound.length && (sound[row] >> (set & 31) & 1) != 0;
        }
    }
}
