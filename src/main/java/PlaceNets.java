import java.util.Arrays;
import java.util.NoSuchElementException;

/** Nets of places and tokens, told as a text; ../shared/DOC.md numbers what each call promises. */
public final class PlaceNets {
    public static final int NONE = -1;
    public static final int MANY = -9;

    private static final int BAD_NUMBER = -1;
    private static final int NO_SUCH = -2;
    private static final int TOO_MANY = -2;
    private static final int CANNOT = -3;
    private static final int FAULT = -1000;

    private static final int MOST_SIGNS = 240;
    private static final int MOST_TRANSITIONS = 10;
    private static final int MOST_TOKENS = 99;
    private static final int MOST_ACTS = 10;
    private static final int MOST_FIRINGS = 200;
    private static final int SEEDS = 1000000;
    /** Length of one marking in a row of markings: the most places a net has. */
    private static final int WIDTH = 10;

    private final Script script = new Script();
    private Net told = new Net();
    private Net spare = new Net();
    private final int[] marking = new int[WIDTH];
    private final int[] wanted = new int[WIDTH];
    private final int[] acts = new int[MOST_ACTS * WIDTH];
    private int actCount;
    private int netVersion;
    private int markingVersion;

    // Made at their first use: most objects are never asked for all of them.
    private Cover cover;
    private Reach reach;
    private Flows placeFlows;
    private Flows transitionFlows;
    private Sets sets;
    private Unfolding unfolding;

    public PlaceNets() {
    }

    public int sign(int v) {
        return script.addFour(v);
    }

    public boolean end(int n) {
        return script.shorten(n);
    }

    public int net() {
        int fault = script.readInto(spare);
        script.shorten(0);
        if (fault != NONE) {
            return FAULT - fault;
        }
        Net old = told;
        told = spare;
        spare = old;
        System.arraycopy(told.first, 0, marking, 0, WIDTH);
        Arrays.fill(wanted, 0);
        actCount = 0;
        netVersion++;
        markingVersion++;
        return told.transitions;
    }

    // ---- tokens

    public int arc(int transition, int place, int what) throws NoSuchElementException {
        if (!told.hasTransition(transition) || !told.hasPlace(place)) {
            throw new NoSuchElementException();
        }
        switch (what) {
            case 0: return told.takes[transition * WIDTH + place];
            case 1: return told.puts[transition * WIDTH + place];
            default: return NONE;
        }
    }

    public int tokens(int place, int what) {
        if (!told.hasPlace(place)) {
            return NONE;
        }
        switch (what) {
            case 0: return marking[place];
            case 1: return told.first[place];
            case 2: return wanted[place];
            default: return NONE;
        }
    }

    public int can() {
        return hasNet() ? told.readyBits(marking) : NONE;
    }

    public int fire(int transition) {
        if (!told.hasTransition(transition)) {
            return NO_SUCH;
        }
        if (!told.isReady(marking, transition)) {
            return CANNOT;
        }
        keepAct();
        told.move(marking, transition);
        return Integer.bitCount(told.readyBits(marking));
    }

    public int put(int place, int n) {
        if (!isTokenNumber(n)) {
            return BAD_NUMBER;
        }
        if (!told.hasPlace(place)) {
            return NO_SUCH;
        }
        keepAct();
        int had = marking[place];
        marking[place] = n;
        return had;
    }

    public int run(int seed, int n) {
        if (seed < 0 || seed >= SEEDS || n < 1 || n > MOST_FIRINGS) {
            return BAD_NUMBER;
        }
        if (!hasNet()) {
            return NO_SUCH;
        }
        keepAct();
        int s = seed;
        for (int fired = 0; fired < n; fired++) {
            int ready = told.readyBits(marking);
            int choices = Integer.bitCount(ready);
            if (choices == 0) {
                return fired;
            }
            s = (1103 * s + 12345) % 1000003;
            told.move(marking, bitAt(ready, s % choices));
        }
        return n;
    }

    public int home() {
        if (!hasNet()) {
            return NO_SUCH;
        }
        keepAct();
        System.arraycopy(told.first, 0, marking, 0, WIDTH);
        return tokensInAll();
    }

    public int undo() {
        if (!hasNet()) {
            return NO_SUCH;
        }
        if (actCount == 0) {
            return CANNOT;
        }
        actCount--;
        System.arraycopy(acts, actCount * WIDTH, marking, 0, WIDTH);
        markingVersion++;
        return actCount;
    }

    public int goal(int place, int n) {
        if (!isTokenNumber(n)) {
            return BAD_NUMBER;
        }
        if (!told.hasPlace(place)) {
            return NO_SUCH;
        }
        int had = wanted[place];
        wanted[place] = n;
        return had;
    }

    // ---- covered

    public int node(int i, int what) {
        boolean asked = i == NONE ? what == 0 : told.hasPlace(what) || (what >= 10 && what <= 12);
        if (!hasNet() || i < NONE || !asked) {
            return NONE;
        }
        Cover c = coverNow();
        if (c.tooMany) {
            return TOO_MANY;
        }
        return i == NONE ? c.nodes : c.tell(i, what);
    }

    public int bound(int place) {
        if (!told.hasPlace(place)) {
            return NONE;
        }
        Cover c = coverNow();
        return c.tooMany ? TOO_MANY : c.mostIn(place);
    }

    public int covers(int what) {
        if (!hasNet() || what < 0 || what > 1) {
            return NONE;
        }
        Cover c = coverNow();
        if (c.tooMany) {
            return TOO_MANY;
        }
        return what == 0 ? c.leastAbove(wanted) : c.countAbove(wanted);
    }

    // ---- all markings

    public int reached(int i, int what) {
        boolean asked = i == NONE ? what == 0 : told.hasPlace(what) || what == 10 || what == 11;
        if (!hasNet() || i < NONE || !asked) {
            return NONE;
        }
        Reach r = reachNow();
        if (r.tooMany) {
            return TOO_MANY;
        }
        return i == NONE ? r.count : r.tell(i, what);
    }

    public int dead(int what) {
        if (!hasNet() || what < 0 || what > 3) {
            return NONE;
        }
        Reach r = reachNow();
        if (r.tooMany) {
            return TOO_MANY;
        }
        switch (what) {
            case 0: return r.countDead();
            case 1: return r.leastDead();
            case 2: return r.countComingTo(Reach.START);
            default: return r.countComingTo(Reach.DEAD);
        }
    }

    public int alive(int transition) {
        if (!told.hasTransition(transition)) {
            return NONE;
        }
        Reach r = reachNow();
        return r.tooMany ? TOO_MANY : r.liveness(transition);
    }

    public int way(int i) {
        if (!hasNet() || i < NONE) {
            return NONE;
        }
        Reach r = reachNow();
        if (r.tooMany) {
            return TOO_MANY;
        }
        int at = r.find(wanted);
        if (at == NONE) {
            return CANNOT;
        }
        return i == NONE ? r.depth[at] : r.stepTo(at, i);
    }

    // ---- flows, siphons, traps

    public int flow(int kind, int i, int k) {
        boolean asked = i == NONE || (kind == 0 ? told.hasPlace(k) : told.hasTransition(k));
        if (!hasNet() || kind < 0 || kind > 1 || i < NONE || !asked) {
            return NONE;
        }
        Flows f = flowsNow(kind);
        if (f.tooFar) {
            return TOO_MANY;
        }
        return i == NONE ? f.count : f.tell(i, k);
    }

    public int kept(int i) {
        if (!hasNet() || i < 0) {
            return NONE;
        }
        Flows f = placeFlowsNow();
        return f.tooFar ? TOO_MANY : f.weigh(i, marking);
    }

    public int least(int kind, int i) {
        if (!hasNet() || kind < 0 || kind > 1 || i < NONE) {
            return NONE;
        }
        Sets s = setsNow();
        return i == NONE ? s.countOf(kind) : s.tell(kind, i);
    }

    public int trapIn(int set) {
        if (!hasNet() || set < 0 || set >= 1 << told.places) {
            return NONE;
        }
        return setsNow().greatestTrap(set);
    }

    public int kinds() {
        if (!hasNet()) {
            return NONE;
        }
        return (told.isPlain() ? 1 : 0)
            + (told.isPure() ? 2 : 0)
            + (told.isMachine() ? 4 : 0)
            + (told.isCircuit() ? 8 : 0)
            + (told.isFree() ? 16 : 0);
    }

    public int caught() {
        if (!hasNet()) {
            return NONE;
        }
        return setsNow().allMarked(marking) ? 1 : 0;
    }

    // ---- unfolded

    public int event(int i, int what) {
        boolean asked = i == NONE ? what == 0 : what >= 0;
        if (!hasNet() || i < NONE || !asked) {
            return NONE;
        }
        Unfolding u = unfoldingNow();
        if (u.tooMany) {
            return TOO_MANY;
        }
        return i == NONE ? u.events : u.tellEvent(i, what);
    }

    public int condition(int i, int what) {
        boolean asked = i == NONE ? what == 0 : what == 0 || what == 1;
        if (!hasNet() || i < NONE || !asked) {
            return NONE;
        }
        Unfolding u = unfoldingNow();
        if (u.tooMany) {
            return TOO_MANY;
        }
        return i == NONE ? u.conditions : u.tellCondition(i, what);
    }

    public int atOnce(int a, int b) {
        if (!hasNet() || a < 0 || b < 0) {
            return NONE;
        }
        Unfolding u = unfoldingNow();
        if (u.tooMany) {
            return TOO_MANY;
        }
        if (a >= u.conditions || b >= u.conditions) {
            return NONE;
        }
        return u.areTogether(a, b) ? 1 : 0;
    }

    public int leaves(int event, int place) {
        if (!told.hasPlace(place) || event < 0) {
            return NONE;
        }
        Unfolding u = unfoldingNow();
        if (u.tooMany) {
            return TOO_MANY;
        }
        return event < u.events ? u.left[event * WIDTH + place] : NONE;
    }

    public int count(int what) {
        switch (what) {
            case 0: return told.places;
            case 1: return told.transitions;
            case 2: return tokensInAll();
            case 3: return script.length;
            case 4: return actCount;
            default: return NONE;
        }
    }

    // ---- helpers of the face

    private boolean hasNet() {
        return told.places > 0;
    }

    private static boolean isTokenNumber(int n) {
        return n >= 0 && n <= MOST_TOKENS;
    }

    private int tokensInAll() {
        int sum = 0;
        for (int p = 0; p < told.places; p++) {
            sum += marking[p];
        }
        return sum;
    }

    /** Stands ahead of each change of the marking by an act; the oldest act goes if there are too many. */
    private void keepAct() {
        if (actCount == MOST_ACTS) {
            System.arraycopy(acts, WIDTH, acts, 0, (MOST_ACTS - 1) * WIDTH);
            actCount--;
        }
        System.arraycopy(marking, 0, acts, actCount * WIDTH, WIDTH);
        actCount++;
        markingVersion++;
    }

    /** The n-th (from 0 on) of the bits that are set; NONE if there are fewer. */
    private static int bitAt(int bits, int n) {
        int seen = 0;
        for (int t = 0; t < MOST_TRANSITIONS; t++) {
            if ((bits >> t & 1) == 1) {
                if (seen == n) {
                    return t;
                }
                seen++;
            }
        }
        return NONE;
    }

    private Cover coverNow() {
        if (cover == null) {
            cover = new Cover();
        }
        if (cover.version != markingVersion) {
            cover.build(told, marking);
            cover.version = markingVersion;
        }
        return cover;
    }

    private Reach reachNow() {
        if (reach == null) {
            reach = new Reach();
        }
        if (reach.version != markingVersion) {
            reach.build(told, marking);
            reach.version = markingVersion;
        }
        return reach;
    }

    private Flows flowsNow(int kind) {
        return kind == 0 ? placeFlowsNow() : transitionFlowsNow();
    }

    private Flows placeFlowsNow() {
        if (placeFlows == null) {
            placeFlows = new Flows(true);
        }
        if (placeFlows.version != netVersion) {
            placeFlows.build(told);
            placeFlows.version = netVersion;
        }
        return placeFlows;
    }

    private Flows transitionFlowsNow() {
        if (transitionFlows == null) {
            transitionFlows = new Flows(false);
        }
        if (transitionFlows.version != netVersion) {
            transitionFlows.build(told);
            transitionFlows.version = netVersion;
        }
        return transitionFlows;
    }

    private Sets setsNow() {
        if (sets == null) {
            sets = new Sets();
        }
        if (sets.version != netVersion) {
            sets.build(told);
            sets.version = netVersion;
        }
        return sets;
    }

    private Unfolding unfoldingNow() {
        if (unfolding == null) {
            unfolding = new Unfolding();
        }
        if (unfolding.version != markingVersion) {
            unfolding.build(told, marking);
            unfolding.version = markingVersion;
        }
        return unfolding;
    }

    /** Places, transitions and the first marking. Without places it stands for no net. */
    private static final class Net {
        int places;
        int transitions;
        final int[] first = new int[WIDTH];
        // One row more than there are transitions: what an 11th takes is read ahead of its refused >.
        final int[] takes = new int[(MOST_TRANSITIONS + 1) * WIDTH];
        final int[] puts = new int[(MOST_TRANSITIONS + 1) * WIDTH];

        void clear() {
            places = 0;
            transitions = 0;
            Arrays.fill(first, 0);
            Arrays.fill(takes, 0);
            Arrays.fill(puts, 0);
        }

        boolean hasPlace(int p) {
            return p >= 0 && p < places;
        }

        boolean hasTransition(int t) {
            return t >= 0 && t < transitions;
        }

        int change(int t, int p) {
            return puts[t * WIDTH + p] - takes[t * WIDTH + p];
        }

        boolean isReady(int[] row, int t) {
            for (int p = 0; p < places; p++) {
                int rest = row[p] - takes[t * WIDTH + p];
                if (rest < 0 || rest + puts[t * WIDTH + p] > MOST_TOKENS) {
                    return false;
                }
            }
            return true;
        }

        int readyBits(int[] row) {
            int bits = 0;
            for (int t = 0; t < transitions; t++) {
                if (isReady(row, t)) {
                    bits |= 1 << t;
                }
            }
            return bits;
        }

        void move(int[] row, int t) {
            if (!hasTransition(t)) {
                return;
            }
            for (int p = 0; p < places; p++) {
                row[p] += change(t, p);
            }
        }

        /** The places of which a transition takes, as bits. */
        int takenFrom(int t) {
            return placesIn(takes, t);
        }

        /** The places into which a transition puts, as bits. */
        int putInto(int t) {
            return placesIn(puts, t);
        }

        private int placesIn(int[] arcs, int t) {
            int bits = 0;
            for (int p = 0; p < places; p++) {
                if (arcs[t * WIDTH + p] > 0) {
                    bits |= 1 << p;
                }
            }
            return bits;
        }

        int takenInAll(int t) {
            return sumOf(takes, t);
        }

        private int sumOf(int[] arcs, int t) {
            int sum = 0;
            for (int p = 0; p < places; p++) {
                sum += arcs[t * WIDTH + p];
            }
            return sum;
        }

        boolean isPlain() {
            for (int i = 0; i < transitions * WIDTH; i++) {
                if (takes[i] > 1 || puts[i] > 1) {
                    return false;
                }
            }
            return true;
        }

        boolean isPure() {
            for (int t = 0; t < transitions; t++) {
                if ((takenFrom(t) & putInto(t)) != 0) {
                    return false;
                }
            }
            return true;
        }

        boolean isMachine() {
            for (int t = 0; t < transitions; t++) {
                if (sumOf(takes, t) != 1 || sumOf(puts, t) != 1) {
                    return false;
                }
            }
            return true;
        }

        boolean isCircuit() {
            int takenOnce = 0;
            int putOnce = 0;
            for (int t = 0; t < transitions; t++) {
                if ((takenOnce & takenFrom(t)) != 0 || (putOnce & putInto(t)) != 0) {
                    return false;
                }
                takenOnce |= takenFrom(t);
                putOnce |= putInto(t);
            }
            return true;
        }

        boolean isFree() {
            for (int t = 0; t < transitions; t++) {
                for (int u = 0; u < t; u++) {
                    int a = takenFrom(t);
                    int b = takenFrom(u);
                    if ((a & b) != 0 && a != b) {
                        return false;
                    }
                }
            }
            return true;
        }
    }

    /** The text, and how it is read from the left to its first fault. */
    private static final class Script {
        private static final int MOST_BY_ARC = 9;

        int length;
        private final char[] signs = new char[MOST_SIGNS];
        private int at;
        private int fault;

        int addFour(int v) {
            if (length + 4 > MOST_SIGNS) {
                return NONE;
            }
            for (int shift = 24; shift >= 0; shift -= 8) {
                signs[length] = (char) (v >>> shift & 255);
                length++;
            }
            return length;
        }

        boolean shorten(int n) {
            if (n < 0 || n > length) {
                return false;
            }
            length = n;
            return true;
        }

        /** Where the fault is, or NONE; then the net is as told. */
        int readInto(Net net) {
            net.clear();
            at = 0;
            fault = NONE;
            readPart(net);
            for (int parts = 1; parts <= MOST_SIGNS && fault == NONE && at < length; parts++) {
                if (isAt(';')) {
                    at++;
                    readPart(net);
                } else {
                    fault = at;
                }
            }
            if (fault == NONE && net.places == 0) {
                fault = length;
            }
            return fault;
        }

        private void readPart(Net net) {
            skipBlanks();
            if (isAt('m')) {
                at++;
                readTokens(net, net.first, 0, MOST_TOKENS);
            } else {
                readTransition(net);
            }
        }

        private void readTransition(Net net) {
            int base = net.transitions * WIDTH;
            readTokens(net, net.takes, base, MOST_BY_ARC);
            if (fault != NONE) {
                return;
            }
            if (!isAt('>') || net.transitions >= MOST_TRANSITIONS) {
                fault = at;
                return;
            }
            at++;
            net.transitions++;
            readTokens(net, net.puts, base, MOST_BY_ARC);
        }

        /** Reads tokens and the blanks around them, adding each to its place in the row at base. */
        private void readTokens(Net net, int[] row, int base, int most) {
            skipBlanks();
            for (int n = 0; n < MOST_SIGNS && isBetween('A', 'J'); n++) {
                int letter = at;
                int place = signs[letter] - 'A';
                int number = 1;
                at++;
                if (isBetween('1', '9')) {
                    number = signs[at] - '0';
                    at++;
                }
                if (row[base + place] + number > most) {
                    fault = letter;
                    return;
                }
                row[base + place] += number;
                net.places = Math.max(net.places, place + 1);
                skipBlanks();
            }
        }

        private void skipBlanks() {
            for (int n = 0; n < MOST_SIGNS && isAt(' '); n++) {
                at++;
            }
        }

        private boolean isAt(char c) {
            return at < length && signs[at] == c;
        }

        private boolean isBetween(char low, char high) {
            return at < length && signs[at] >= low && signs[at] <= high;
        }
    }

    /** The tree of all that can be covered. */
    private static final class Cover {
        private static final int MOST_NODES = 200;
        // Above what 200 nodes can add up to: 99 and 9 for each of them.
        private static final int ENDLESS = 1000000;
        private static final int GOES_ON = 0;
        private static final int IS_DEAD = 1;
        private static final int IS_OLD = 2;

        int version;
        int nodes;
        boolean tooMany;
        private final int[] held = new int[MOST_NODES * WIDTH];
        private final int[] origin = new int[MOST_NODES];
        private final int[] via = new int[MOST_NODES];
        private final int[] ending = new int[MOST_NODES];
        private int places;

        void build(Net net, int[] marking) {
            tooMany = false;
            places = net.places;
            System.arraycopy(marking, 0, held, 0, WIDTH);
            origin[0] = NONE;
            via[0] = NONE;
            nodes = 1;
            for (int i = 0; i < MOST_NODES && i < nodes && !tooMany; i++) {
                ending[i] = isOld(i) ? IS_OLD : GOES_ON;
                if (ending[i] == GOES_ON && !grow(net, i)) {
                    ending[i] = IS_DEAD;
                }
            }
        }

        /** Makes the nodes that come of node i; false: nothing can fire there. */
        private boolean grow(Net net, int i) {
            boolean fired = false;
            for (int t = 0; t < net.transitions; t++) {
                if (isEnough(net, i, t)) {
                    if (nodes >= MOST_NODES) {
                        tooMany = true;
                        return true;
                    }
                    fired = true;
                    addNode(net, i, t);
                }
            }
            return fired;
        }

        private boolean isEnough(Net net, int i, int t) {
            for (int p = 0; p < places; p++) {
                if (held[i * WIDTH + p] < net.takes[t * WIDTH + p]) {
                    return false;
                }
            }
            return true;
        }

        private void addNode(Net net, int i, int t) {
            for (int p = 0; p < places; p++) {
                int has = held[i * WIDTH + p];
                held[nodes * WIDTH + p] = has == ENDLESS ? ENDLESS : has + net.change(t, p);
            }
            origin[nodes] = i;
            via[nodes] = t;
            int back = i;
            for (int steps = 0; steps < MOST_NODES && back != NONE; steps++) {
                if (isWithin(back, nodes)) {
                    raise(back, nodes);
                }
                back = origin[back];
            }
            nodes++;
        }

        /** Whether node a has no more in any place than node b. */
        private boolean isWithin(int a, int b) {
            for (int p = 0; p < places; p++) {
                if (held[a * WIDTH + p] > held[b * WIDTH + p]) {
                    return false;
                }
            }
            return true;
        }

        private void raise(int low, int high) {
            for (int p = 0; p < places; p++) {
                if (held[low * WIDTH + p] < held[high * WIDTH + p]) {
                    held[high * WIDTH + p] = ENDLESS;
                }
            }
        }

        private boolean isOld(int i) {
            for (int j = 0; j < i; j++) {
                if (isSame(i, j)) {
                    return true;
                }
            }
            return false;
        }

        private boolean isSame(int a, int b) {
            for (int p = 0; p < places; p++) {
                if (held[a * WIDTH + p] != held[b * WIDTH + p]) {
                    return false;
                }
            }
            return true;
        }

        int tell(int i, int what) {
            if (i < 0 || i >= nodes) {
                return NONE;
            }
            switch (what) {
                case 10: return origin[i];
                case 11: return via[i];
                case 12: return ending[i];
                default: return what >= 0 && what < places ? shown(held[i * WIDTH + what]) : NONE;
            }
        }

        private static int shown(int number) {
            return number == ENDLESS ? MANY : number;
        }

        int mostIn(int place) {
            int most = 0;
            for (int i = 0; i < nodes; i++) {
                most = Math.max(most, held[i * WIDTH + place]);
            }
            return shown(most);
        }

        int leastAbove(int[] wanted) {
            for (int i = 0; i < nodes; i++) {
                if (isAbove(i, wanted)) {
                    return i;
                }
            }
            return CANNOT;
        }

        int countAbove(int[] wanted) {
            int n = 0;
            for (int i = 0; i < nodes; i++) {
                if (isAbove(i, wanted)) {
                    n++;
                }
            }
            return n;
        }

        private boolean isAbove(int i, int[] wanted) {
            for (int p = 0; p < places; p++) {
                if (held[i * WIDTH + p] < wanted[p]) {
                    return false;
                }
            }
            return true;
        }
    }

    /** All markings to which one can come. */
    private static final class Reach {
        private static final int MOST_MARKINGS = 300;
        // A power of two, so that a mask finds the slot; over three times the markings.
        private static final int SLOTS = 1024;
        // Bits beside those of the transitions.
        private static final int START = 10;
        private static final int DEAD = 11;

        int version;
        int count;
        boolean tooMany;
        final int[] depth = new int[MOST_MARKINGS];
        private final int[] held = new int[MOST_MARKINGS * WIDTH];
        private final int[] ready = new int[MOST_MARKINGS];
        private final int[] origin = new int[MOST_MARKINGS];
        private final int[] via = new int[MOST_MARKINGS];
        private final int[] next = new int[MOST_MARKINGS * MOST_TRANSITIONS];
        /** To what one can come from each marking, as bits: one where a transition can, START, DEAD. */
        private final int[] ahead = new int[MOST_MARKINGS];
        private final int[] slots = new int[SLOTS];
        private final int[] coming = new int[WIDTH];
        private int places;
        private int transitions;

        void build(Net net, int[] marking) {
            tooMany = false;
            places = net.places;
            transitions = net.transitions;
            count = 0;
            Arrays.fill(slots, NONE);
            add(net, marking, NONE, NONE);
            for (int i = 0; i < MOST_MARKINGS && i < count && !tooMany; i++) {
                spread(net, i);
            }
            if (!tooMany) {
                lookAhead();
            }
        }

        private void spread(Net net, int i) {
            for (int t = 0; t < transitions && !tooMany; t++) {
                if ((ready[i] >> t & 1) == 1) {
                    System.arraycopy(held, i * WIDTH, coming, 0, WIDTH);
                    net.move(coming, t);
                    int to = find(coming);
                    next[i * MOST_TRANSITIONS + t] = to == NONE ? add(net, coming, i, t) : to;
                }
            }
        }

        private int add(Net net, int[] row, int from, int t) {
            if (count >= MOST_MARKINGS) {
                tooMany = true;
                return NONE;
            }
            int i = count;
            count++;
            System.arraycopy(row, 0, held, i * WIDTH, WIDTH);
            slots[slotOf(row)] = i;
            ready[i] = net.readyBits(row);
            origin[i] = from;
            via[i] = t;
            depth[i] = from == NONE ? 0 : depth[from] + 1;
            return i;
        }

        /** The marking that has the same in all places; NONE. */
        int find(int[] row) {
            return slots[slotOf(row)];
        }

        /** The slot of a marking, or the free one that would be its own. */
        private int slotOf(int[] row) {
            int mixed = 0;
            for (int p = 0; p < places; p++) {
                mixed = mixed * 101 + row[p];
            }
            int slot = (mixed ^ mixed >>> 13) & SLOTS - 1;
            for (int tries = 0; tries < SLOTS; tries++) {
                if (slots[slot] == NONE || isSame(slots[slot], row)) {
                    return slot;
                }
                slot = slot + 1 & SLOTS - 1;
            }
            return slot;
        }

        private boolean isSame(int i, int[] row) {
            for (int p = 0; p < places; p++) {
                if (held[i * WIDTH + p] != row[p]) {
                    return false;
                }
            }
            return true;
        }

        /** Carries the bits back along the firings until nothing comes new. */
        private void lookAhead() {
            for (int i = 0; i < count; i++) {
                ahead[i] = ready[i] | (ready[i] == 0 ? 1 << DEAD : 0) | (i == 0 ? 1 << START : 0);
            }
            boolean changed = true;
            for (int round = 0; round <= count && changed; round++) {
                changed = false;
                for (int i = count - 1; i >= 0; i--) {
                    int bits = ahead[i] | aheadOfNext(i);
                    changed = changed || bits != ahead[i];
                    ahead[i] = bits;
                }
            }
        }

        private int aheadOfNext(int i) {
            int bits = 0;
            for (int t = 0; t < transitions; t++) {
                if ((ready[i] >> t & 1) == 1) {
                    bits |= ahead[next[i * MOST_TRANSITIONS + t]];
                }
            }
            return bits;
        }

        int tell(int i, int what) {
            if (i < 0 || i >= count) {
                return NONE;
            }
            switch (what) {
                case 10: return ready[i];
                case 11: return depth[i];
                default: return what >= 0 && what < places ? held[i * WIDTH + what] : NONE;
            }
        }

        int countDead() {
            int n = 0;
            for (int i = 0; i < count; i++) {
                if (ready[i] == 0) {
                    n++;
                }
            }
            return n;
        }

        int leastDead() {
            for (int i = 0; i < count; i++) {
                if (ready[i] == 0) {
                    return i;
                }
            }
            return CANNOT;
        }

        int countComingTo(int bit) {
            int n = 0;
            for (int i = 0; i < count; i++) {
                n += ahead[i] >> bit & 1;
            }
            return n;
        }

        int liveness(int t) {
            int n = countComingTo(t);
            if (n == count) {
                return 2;
            }
            return n > 0 ? 1 : 0;
        }

        /** The k-th transition of the way by which the marking was met; NONE: there are fewer. */
        int stepTo(int marking, int k) {
            if (k < 0 || k >= depth[marking]) {
                return NONE;
            }
            int at = marking;
            for (int steps = 0; steps < MOST_MARKINGS && depth[at] > k + 1; steps++) {
                at = origin[at];
            }
            return via[at];
        }
    }

    /** The least flows, of places or of transitions. */
    private static final class Flows {
        private static final int MOST_ROWS = 300;
        private static final int MOST_NUMBER = 1000000000;
        private static final int MOST_KEPT = 2147483647;
        // More than Euclid's way takes for any two longs.
        private static final int MOST_DIVISIONS = 100;

        int version;
        int count;
        boolean tooFar;
        private final boolean ofPlaces;
        private int[] rows = new int[MOST_ROWS * WIDTH];
        private int[] coming = new int[MOST_ROWS * WIDTH];
        private final int[] changes = new int[MOST_ROWS];
        private final int[] used = new int[MOST_ROWS];
        private final boolean[] goes = new boolean[MOST_ROWS];
        private final int[] order = new int[MOST_ROWS];
        private final long[] sum = new long[WIDTH];
        private int width;
        private int steps;

        Flows(boolean ofPlaces) {
            this.ofPlaces = ofPlaces;
        }

        void build(Net net) {
            tooFar = false;
            width = ofPlaces ? net.places : net.transitions;
            steps = ofPlaces ? net.transitions : net.places;
            count = width;
            Arrays.fill(rows, 0);
            for (int k = 0; k < width; k++) {
                rows[k * WIDTH + k] = 1;
                used[k] = 1 << k;
            }
            for (int step = 0; step < steps && !tooFar; step++) {
                settle(net, step);
            }
            if (!tooFar) {
                sortRows();
            }
        }

        /** Makes rows that the step does not change of those that stand. */
        private void settle(Net net, int step) {
            int more = 0;
            int less = 0;
            for (int r = 0; r < count; r++) {
                // No row comes with a change beyond MOST_NUMBER, so that an int holds it.
                changes[r] = (int) changeOf(net, rows, r, step);
                more += changes[r] > 0 ? 1 : 0;
                less += changes[r] < 0 ? 1 : 0;
            }
            if (count - more - less + more * less > MOST_ROWS) {
                tooFar = true;
                return;
            }
            int made = copyUnchanged();
            for (int a = 0; a < count && !tooFar; a++) {
                for (int b = 0; b < count && !tooFar; b++) {
                    if (changes[a] > 0 && changes[b] < 0) {
                        join(a, b, made);
                        tooFar = isTooGreat(net, made);
                        made++;
                    }
                }
            }
            int[] old = rows;
            rows = coming;
            coming = old;
            count = made;
            dropRows();
        }

        private int copyUnchanged() {
            int made = 0;
            for (int r = 0; r < count; r++) {
                if (changes[r] == 0) {
                    System.arraycopy(rows, r * WIDTH, coming, made * WIDTH, WIDTH);
                    made++;
                }
            }
            return made;
        }

        private long changeOf(Net net, int[] from, int r, int step) {
            long change = 0;
            for (int k = 0; k < width; k++) {
                long number = from[r * WIDTH + k];
                change += number * (ofPlaces ? net.change(step, k) : net.change(k, step));
            }
            return change;
        }

        /** The sum comes in least terms; a number that is too great comes as the first that is. */
        private void join(int a, int b, int into) {
            long divisor = 0;
            for (int k = 0; k < width; k++) {
                sum[k] = (long) rows[a * WIDTH + k] * -changes[b] + (long) rows[b * WIDTH + k] * changes[a];
                divisor = commonDivisor(divisor, sum[k]);
            }
            for (int k = 0; k < width; k++) {
                long number = divisor > 1 ? sum[k] / divisor : sum[k];
                coming[into * WIDTH + k] = (int) Math.min(number, MOST_NUMBER + 1L);
            }
        }

        private static long commonDivisor(long a, long b) {
            long x = a;
            long y = b;
            for (int n = 0; n < MOST_DIVISIONS && y != 0; n++) {
                long rest = x % y;
                x = y;
                y = rest;
            }
            return x;
        }

        private boolean isTooGreat(Net net, int r) {
            for (int k = 0; k < width; k++) {
                if (coming[r * WIDTH + k] > MOST_NUMBER) {
                    return true;
                }
            }
            for (int step = 0; step < steps; step++) {
                if (Math.abs(changeOf(net, coming, r, step)) > MOST_NUMBER) {
                    return true;
                }
            }
            return false;
        }

        private void dropRows() {
            for (int r = 0; r < count; r++) {
                used[r] = usedBy(r);
            }
            for (int r = 0; r < count; r++) {
                goes[r] = isBeaten(r);
            }
            int stay = 0;
            for (int r = 0; r < count; r++) {
                if (!goes[r]) {
                    System.arraycopy(rows, r * WIDTH, rows, stay * WIDTH, WIDTH);
                    used[stay] = used[r];
                    stay++;
                }
            }
            count = stay;
        }

        private int usedBy(int r) {
            int bits = 0;
            for (int k = 0; k < width; k++) {
                if (rows[r * WIDTH + k] != 0) {
                    bits |= 1 << k;
                }
            }
            return bits;
        }

        /** Of rows that use the same, the first one stays. */
        private boolean isBeaten(int r) {
            for (int other = 0; other < count; other++) {
                boolean within = (used[other] & ~used[r]) == 0;
                if (within && (used[other] != used[r] || other < r)) {
                    return true;
                }
            }
            return false;
        }

        private void sortRows() {
            for (int r = 0; r < count; r++) {
                int slot = r;
                for (; slot > 0 && used[order[slot - 1]] > used[r]; slot--) {
                    order[slot] = order[slot - 1];
                }
                order[slot] = r;
            }
        }

        int tell(int i, int k) {
            if (i < 0 || i >= count || k < 0 || k >= width) {
                return NONE;
            }
            return rows[order[i] * WIDTH + k];
        }

        int weigh(int i, int[] marking) {
            if (i < 0 || i >= count) {
                return NONE;
            }
            long weight = 0;
            for (int k = 0; k < width; k++) {
                weight += (long) rows[order[i] * WIDTH + k] * marking[k];
            }
            return (int) Math.min(weight, MOST_KEPT);
        }
    }

    /** Siphons and traps, as bits of places. */
    private static final class Sets {
        // No more sets of 10 places can be such that none is within another.
        private static final int MOST_SETS = 252;

        int version;
        private final int[] siphons = new int[MOST_SETS];
        private final int[] traps = new int[MOST_SETS];
        private final int[] takenFrom = new int[MOST_TRANSITIONS];
        private final int[] putInto = new int[MOST_TRANSITIONS];
        private int siphonCount;
        private int trapCount;
        private int transitions;

        void build(Net net) {
            transitions = net.transitions;
            for (int t = 0; t < transitions; t++) {
                takenFrom[t] = net.takenFrom(t);
                putInto[t] = net.putInto(t);
            }
            siphonCount = collect(siphons, putInto, takenFrom, net.places);
            trapCount = collect(traps, takenFrom, putInto, net.places);
        }

        /** Sets come rising, so that those within one stand ahead of it. */
        private int collect(int[] into, int[] touching, int[] needed, int places) {
            int n = 0;
            for (int set = 1; set < 1 << places; set++) {
                if (n < MOST_SETS && isClosed(set, touching, needed) && !holdsOneOf(into, n, set)) {
                    into[n] = set;
                    n++;
                }
            }
            return n;
        }

        /** Whether each transition that touches the set has the needed in it, too. */
        private boolean isClosed(int set, int[] touching, int[] needed) {
            for (int t = 0; t < transitions; t++) {
                if ((touching[t] & set) != 0 && (needed[t] & set) == 0) {
                    return false;
                }
            }
            return true;
        }

        private static boolean holdsOneOf(int[] found, int n, int set) {
            for (int i = 0; i < n; i++) {
                if ((found[i] & ~set) == 0) {
                    return true;
                }
            }
            return false;
        }

        int countOf(int kind) {
            return kind == 0 ? siphonCount : trapCount;
        }

        int tell(int kind, int i) {
            if (i < 0 || i >= countOf(kind)) {
                return NONE;
            }
            return kind == 0 ? siphons[i] : traps[i];
        }

        /** What is taken of without return goes, until nothing more goes. */
        int greatestTrap(int set) {
            int rest = set;
            for (int round = 0; round <= WIDTH; round++) {
                for (int t = 0; t < transitions; t++) {
                    if ((putInto[t] & rest) == 0) {
                        rest &= ~takenFrom[t];
                    }
                }
            }
            return rest;
        }

        boolean allMarked(int[] marking) {
            for (int i = 0; i < siphonCount; i++) {
                if (!isMarked(greatestTrap(siphons[i]), marking)) {
                    return false;
                }
            }
            return true;
        }

        private static boolean isMarked(int set, int[] marking) {
            for (int p = 0; p < WIDTH; p++) {
                if ((set >> p & 1) == 1 && marking[p] > 0) {
                    return true;
                }
            }
            return false;
        }
    }

    /** Events and conditions; the past of an event is kept as bits of events. */
    private static final class Unfolding {
        private static final int MOST_FIRST = 12;
        private static final int MOST_TAKEN = 3;
        private static final int MOST_EVENTS = 30;
        private static final int MOST_CONDITIONS = 80;
        /** Ints of 32 bits for one bit of each condition. */
        private static final int WORDS = 3;

        int version;
        int events;
        int conditions;
        boolean tooMany;
        final int[] left = new int[MOST_EVENTS * WIDTH];
        private final int[] transition = new int[MOST_EVENTS];
        private final int[] past = new int[MOST_EVENTS];
        private final boolean[] cut = new boolean[MOST_EVENTS];
        private final int[] had = new int[MOST_EVENTS * MOST_TAKEN];
        private final int[] hadCount = new int[MOST_EVENTS];
        private final int[] place = new int[MOST_CONDITIONS];
        private final int[] origin = new int[MOST_CONDITIONS];
        private final int[] together = new int[MOST_CONDITIONS * WORDS];
        private final int[] start = new int[WIDTH];
        private final int[] missing = new int[WIDTH];
        private final int[] picked = new int[MOST_TAKEN];
        private final int[] beside = new int[WORDS];
        private int places;
        /** Of the events that are looked for: how many their past has, below which number their conditions are. */
        private int pastSize;
        private int oldConditions;

        /**
         * An event's past is greater than those of which its conditions come: so all of one size of
         * past are found in one round, in the order in which they are to come.
         */
        void build(Net net, int[] marking) {
            events = 0;
            conditions = 0;
            places = net.places;
            System.arraycopy(marking, 0, start, 0, WIDTH);
            tooMany = isTooGreat(net);
            Arrays.fill(beside, 0);
            for (int p = 0; p < places && !tooMany; p++) {
                addConditions(p, marking[p], NONE);
            }
            for (int size = 1; size <= MOST_EVENTS + 1 && size <= events + 1 && !tooMany; size++) {
                findEvents(net, size);
            }
        }

        private void findEvents(Net net, int size) {
            pastSize = size;
            oldConditions = conditions;
            for (int t = 0; t < net.transitions && !tooMany; t++) {
                System.arraycopy(net.takes, t * WIDTH, missing, 0, WIDTH);
                pick(net, t, net.takenInAll(t), 0, 0);
            }
        }

        private boolean isTooGreat(Net net) {
            int sum = 0;
            for (int p = 0; p < places; p++) {
                sum += start[p];
            }
            boolean great = sum > MOST_FIRST;
            for (int t = 0; t < net.transitions; t++) {
                great = great || net.takenInAll(t) > MOST_TAKEN;
            }
            return great;
        }

        private void addConditions(int p, int n, int event) {
            for (int k = 0; k < n && !tooMany; k++) {
                if (conditions >= MOST_CONDITIONS) {
                    tooMany = true;
                } else {
                    place[conditions] = p;
                    origin[conditions] = event;
                    joinOthers(conditions, event);
                    conditions++;
                }
            }
        }

        /** Tells with which of the earlier conditions a new one can hold at once. */
        private void joinOthers(int c, int event) {
            Arrays.fill(together, c * WORDS, c * WORDS + WORDS, 0);
            for (int d = 0; d < c; d++) {
                if (origin[d] == event || (beside[d >> 5] >>> (d & 31) & 1) == 1) {
                    together[c * WORDS + (d >> 5)] |= 1 << (d & 31);
                    together[d * WORDS + (c >> 5)] |= 1 << (c & 31);
                }
            }
        }

        /** What can hold at once with all that an event has can so with what comes of it, too. */
        private void gatherBeside(int needed) {
            Arrays.fill(beside, -1);
            for (int k = 0; k < needed; k++) {
                for (int w = 0; w < WORDS; w++) {
                    beside[w] &= together[picked[k] * WORDS + w];
                }
            }
        }

        boolean areTogether(int a, int b) {
            return (together[a * WORDS + (b >> 5)] >>> (b & 31) & 1) == 1;
        }

        /** Picks the depth-th condition and on, rising; before: the events in the pasts of those picked. */
        private void pick(Net net, int t, int needed, int depth, int before) {
            if (depth >= needed || depth >= MOST_TAKEN) {
                if (needed > 0 && Integer.bitCount(before) + 1 == pastSize) {
                    addEvent(net, t, needed, before);
                }
                return;
            }
            int from = depth == 0 ? 0 : picked[depth - 1] + 1;
            for (int c = from; c < oldConditions && !tooMany; c++) {
                if (isFit(c, depth)) {
                    picked[depth] = c;
                    missing[place[c]]--;
                    pick(net, t, needed, depth + 1, before | pastOf(c));
                    missing[place[c]]++;
                }
            }
        }

        private int pastOf(int c) {
            return origin[c] == NONE ? 0 : past[origin[c]];
        }

        private boolean isFit(int c, int depth) {
            if (missing[place[c]] == 0 || (origin[c] != NONE && cut[origin[c]])) {
                return false;
            }
            for (int k = 0; k < depth; k++) {
                if (!areTogether(picked[k], c)) {
                    return false;
                }
            }
            return true;
        }

        private void addEvent(Net net, int t, int needed, int before) {
            if (events >= MOST_EVENTS) {
                tooMany = true;
                return;
            }
            int e = events;
            events++;
            transition[e] = t;
            past[e] = before | 1 << e;
            hadCount[e] = needed;
            System.arraycopy(picked, 0, had, e * MOST_TAKEN, needed);
            leave(net, e);
            cut[e] = isCut(e);
            gatherBeside(needed);
            for (int p = 0; p < places; p++) {
                addConditions(p, net.puts[t * WIDTH + p], e);
            }
        }

        private void leave(Net net, int e) {
            for (int p = 0; p < places; p++) {
                int n = start[p];
                for (int f = 0; f <= e; f++) {
                    if ((past[e] >> f & 1) == 1) {
                        n += net.change(transition[f], p);
                    }
                }
                left[e * WIDTH + p] = n;
            }
        }

        private boolean isCut(int e) {
            if (isLeft(e, start, 0)) {
                return true;
            }
            for (int f = 0; f < e; f++) {
                if (Integer.bitCount(past[f]) < Integer.bitCount(past[e]) && isLeft(e, left, f * WIDTH)) {
                    return true;
                }
            }
            return false;
        }

        private boolean isLeft(int e, int[] row, int base) {
            for (int p = 0; p < places; p++) {
                if (left[e * WIDTH + p] != row[base + p]) {
                    return false;
                }
            }
            return true;
        }

        int tellEvent(int i, int what) {
            if (i < 0 || i >= events || what < 0) {
                return NONE;
            }
            switch (what) {
                case 0: return transition[i];
                case 1: return Integer.bitCount(past[i]);
                case 2: return cut[i] ? 1 : 0;
                default: return what - 3 < hadCount[i] ? had[i * MOST_TAKEN + what - 3] : CANNOT;
            }
        }

        int tellCondition(int i, int what) {
            if (i < 0 || i >= conditions) {
                return NONE;
            }
            if (what == 0) {
                return place[i];
            }
            return origin[i] == NONE ? CANNOT : origin[i];
        }
    }
}
