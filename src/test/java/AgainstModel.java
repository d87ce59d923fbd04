import java.math.BigInteger;
import java.util.ArrayList;
import java.util.Arrays;
import java.util.HashMap;
import java.util.HashSet;
import java.util.LinkedHashMap;
import java.util.List;
import java.util.Map;
import java.util.NoSuchElementException;
import java.util.Random;
import java.util.Set;
import java.util.TreeMap;
import java.util.TreeSet;

/**
 * Runs the class beside a model that follows the document word by word, without a thought of speed,
 * on many drawn nets and runs of calls (the seeds are fixed), and tells each answer that differs.
 */
public final class AgainstModel {
    private static int wrong = 0;
    private static long calls = 0;
    private static final Map<String, TreeMap<Long, Integer>> SEEN = new TreeMap<>();

    public static void main(String[] args) {
        int rounds = args.length > 0 ? Integer.parseInt(args[0]) : 400;
        long shift = args.length > 1 ? Long.parseLong(args[1]) : 0;
        for (int seed = 0; seed < rounds && wrong < 20; seed++) {
            new Drive(seed + shift).drawnRun();
            new Drive(1000003L * seed + 17 + shift).wholeTour();
            new Drive(77L * seed + 5 + shift).texts();
        }
        kindsOfAnswersWereSeen();
        System.out.println(calls + " calls beside the model, " + wrong + " wrong");
        if (wrong != 0) {
            System.exit(1);
        }
    }

    /** A test whose nets never come to an edge tests nothing there. */
    private static void kindsOfAnswersWereSeen() {
        needSeen("node", -2); needSeen("node", -9); needSeen("reached", -2); needSeen("flow", -2);
        needSeen("event", -2); needSeen("event", -3); needSeen("condition", -3); needSeen("way", -3);
        needSeen("dead", -3); needSeen("covers", -3); needSeen("alive", 0); needSeen("alive", 1);
        needSeen("alive", 2); needSeen("caught", 0); needSeen("caught", 1); needSeen("bound", -9);
        needSeen("kept", -2); needSeen("fire", -3); needSeen("undo", -3); needSeen("sign", -1);
        needSeen("atOnce", 1); needSeen("atOnce", 0); needSeen("leaves", -2);
    }

    private static void needSeen(String name, long answer) {
        if (SEEN.get(name) == null || !SEEN.get(name).containsKey(answer)) {
            wrong++;
            System.out.println("no run had " + name + " answer " + answer);
        }
    }

    private static final class Drive {
        private final Random random;
        private final long seed;
        private final PlaceNets it = new PlaceNets();
        private final Model model = new Model();
        private final StringBuilder story = new StringBuilder();

        Drive(long seed) {
            this.seed = seed;
            this.random = new Random(seed);
        }

        private int below(int n) {
            return random.nextInt(n);
        }

        private void due(String name, String call, long got, long want) {
            calls++;
            SEEN.computeIfAbsent(name, k -> new TreeMap<>()).merge(want, 1, Integer::sum);
            story.append("  ").append(call).append(" -> ").append(got).append('\n');
            if (got != want) {
                wrong++;
                System.out.println("seed " + seed + ": " + call + " answered " + got + ", due is " + want
                    + (wrong < 3 ? "\n" + story : ""));
            }
        }

        void tell(String text) {
            String t = text;
            while (t.length() % 4 != 0) {
                t += " ";
            }
            for (int i = 0; i < t.length(); i += 4) {
                int v = 0;
                for (int k = 0; k < 4; k++) {
                    v = v << 8 | t.charAt(i + k) & 255;
                }
                due("sign", "sign(" + v + ")", it.sign(v), model.sign(v));
            }
            boolean shorter = below(2) == 0;
            if (shorter) {
                call(1, text.length(), 0, 0);
            }
            story.append(" [").append(text).append("]\n");
            call(2, 0, 0, 0);
        }

        private String tokens(int most, int letters, int weight) {
            StringBuilder s = new StringBuilder();
            int n = below(most + 1);
            for (int k = 0; k < n; k++) {
                s.append(below(6) == 0 ? " " : "").append((char) ('A' + below(letters)));
                if (below(weight) > 2) {
                    s.append(1 + below(weight > 5 ? 9 : 3));
                }
            }
            return s.toString();
        }

        private String netText() {
            int letters = 1 + below(below(3) == 0 ? 10 : 5);
            int transitions = below(below(4) == 0 ? 11 : 6);
            int weight = below(3) == 0 ? 1 + below(9) : 1;
            int most = 1 + below(3);
            List<String> parts = new ArrayList<>();
            int marks = below(3);
            for (int k = 0; k < marks; k++) {
                parts.add("m" + tokens(4, letters, weight));
            }
            for (int t = 0; t < transitions; t++) {
                String left = tokens(most, letters, weight);
                if (left.isEmpty() && below(5) != 0) {
                    left = String.valueOf((char) ('A' + below(letters)));
                }
                parts.add(left + ">" + tokens(most, letters, weight));
            }
            if (parts.isEmpty()) {
                parts.add("mAB");
            }
            java.util.Collections.shuffle(parts, random);
            String text = String.join(below(4) == 0 ? " ; " : ";", parts);
            return text.length() > 240 ? text.substring(0, 240) : text;
        }

        /** Chains of weights, whose flows have great numbers; many sources and drains, whose flows are many. */
        private String heavyText() {
            StringBuilder s = new StringBuilder("m A9A9A9C");
            int kind = below(5);
            if (kind == 4) {
                s.append(";AB>BC");
                int n = 1 + below(9);
                for (int k = 0; k < n; k++) {
                    char a = (char) ('A' + k);
                    char b = (char) ('A' + k + 1);
                    s.append(below(2) == 0 ? ";" + a + (6 + below(4)) + ">" + b + (6 + below(4))
                        : ";" + b + (6 + below(4)) + ">" + a + (6 + below(4)));
                }
                return s.toString();
            }
            int n = 3 + below(8);
            for (int k = 0; k < n; k++) {
                s.append(';');
                for (int p = 0; p < 10; p++) {
                    if (below(3) < 2) {
                        s.append((char) ('A' + p));
                        if (kind > 1 && below(2) == 0) {
                            s.append(1 + below(9));
                        }
                    }
                    if (p == 4) {
                        s.append('>');
                    }
                }
            }
            String text = s.toString();
            return text.length() > 240 ? text.substring(0, text.lastIndexOf(';', 240)) : text;
        }

        void texts() {
            String signs = "AABCJKm;;>> 1290;A>BmA;B>A a\u00e9\0";
            for (int k = 0; k < 12; k++) {
                int kind = below(3);
                StringBuilder s = new StringBuilder(kind == 0 ? "" : netText());
                if (kind == 0) {
                    int n = below(14);
                    for (int j = 0; j < n; j++) {
                        s.append(signs.charAt(below(signs.length())));
                    }
                } else {
                    for (int j = below(4); j > 0; j--) {
                        s.insert(below(s.length() + 1), signs.charAt(below(signs.length())));
                    }
                    if (below(5) == 0) {
                        s.append(";>A;>;B>;C>C;>B;A>;>");
                    }
                }
                for (int j = below(20) == 0 ? 62 : 0; j > 0; j--) {
                    call(0, 0x20202020, 0, 0);
                }
                call(1, below(3) == 0 ? below(12) : 0, 0, 0);
                tell(s.length() > 240 ? s.substring(0, 240) : s.toString());
                call(34, 0, 0, 0);
                call(34, 1, 0, 0);
                for (int p = 0; p < 10; p++) {
                    call(4, p, 1, 0);
                    call(3, below(10), p, below(2));
                }
            }
        }

        void drawnRun() {
            for (int n = 0; n < 480; n++) {
                if (n % 160 == 8) {
                    tell(below(6) == 0 ? heavyText() : netText());
                    n += 20;
                }
                int op = below(36);
                if (op == 2) {
                    op = below(8) == 0 ? 2 : 5;
                }
                call(op, number(), number(), number());
            }
        }

        private int number() {
            switch (below(12)) {
                case 0: return -1;
                case 1: return 8 + below(8);
                case 2: return below(320);
                case 3: return below(3) == 0 ? random.nextInt() : below(1000003);
                case 4: return below(3) == 0 ? Integer.MIN_VALUE + below(2) * 4 : Integer.MAX_VALUE - below(3);
                default: return below(4);
            }
        }

        /** Asks everything of one net, then once more behind some acts. */
        void wholeTour() {
            tell(below(5) == 0 ? heavyText() : netText());
            askNet();
            askMarking();
            for (int k = below(4); k > 0; k--) {
                call(6, below(4), 0, 0);
                call(7, below(5), below(4) == 0 ? below(100) : below(5), 0);
                call(8, below(1000000), 1 + below(200), 0);
            }
            call(11, below(5), below(3), 0);
            askMarking();
        }

        private void askNet() {
            for (int p = -1; p <= 10; p++) {
                for (int t = -1; t <= 10; t++) {
                    call(3, t, p, below(4) - 1);
                }
            }
            for (int kind = -1; kind < 3; kind++) {
                for (int i = -2; i < 12; i++) {
                    call(19 + 2, kind, i, 0);
                    for (int k = -1; k <= 10; k++) {
                        call(19, kind, i, k);
                    }
                }
            }
            for (int set = -1; set < 1025; set += 1 + below(9)) {
                call(22, set, 0, 0);
            }
            call(23, 0, 0, 0);
        }

        private void askMarking() {
            call(5, 0, 0, 0);
            call(24, 0, 0, 0);
            for (int i = -2; i < 30; i++) {
                for (int what = -1; what < 13; what++) {
                    call(12, i, what, 0);
                    call(15, i, what, 0);
                }
                call(13, i, 0, 0); call(14, i, 0, 0); call(16, i, 0, 0); call(17, i, 0, 0);
                call(18, i, 0, 0); call(20, i, 0, 0);
                for (int what = -1; what < 7; what++) {
                    call(25, i, what, 0);
                    call(26, i, what, 0);
                    call(28, i, what, 0);
                    call(27, i, below(30), 0);
                }
            }
            for (int k = 0; k < 60; k++) {
                call(12, below(200), below(13), 0);
                call(15, below(300), below(12), 0);
                call(26, below(80), below(2), 0);
                call(27, below(80), below(80), 0);
            }
        }

        private void call(int op, int a, int b, int c) {
            String two = "(" + a + ", " + b + ")";
            String one = "(" + a + ")";
            switch (op) {
                case 0: due("sign", "sign" + one, it.sign(a), model.sign(a)); break;
                case 1: due("end", "end" + one, it.end(a) ? 1 : 0, model.end(a) ? 1 : 0); break;
                case 2: due("net", "net()", it.net(), model.net()); break;
                case 3: arc(a, b, c); break;
                case 4: due("tokens", "tokens" + two, it.tokens(a, b), model.tokens(a, b)); break;
                case 5: due("can", "can()", it.can(), model.can()); break;
                case 6: due("fire", "fire" + one, it.fire(a), model.fire(a)); break;
                case 7: due("put", "put" + two, it.put(a, b), model.put(a, b)); break;
                case 8: due("run", "run" + two, it.run(a, b), model.run(a, b)); break;
                case 9: due("home", "home()", it.home(), model.home()); break;
                case 10: due("undo", "undo()", it.undo(), model.undo()); break;
                case 11: due("goal", "goal" + two, it.goal(a, b), model.goal(a, b)); break;
                case 12: due("node", "node" + two, it.node(a, b), model.node(a, b)); break;
                case 13: due("bound", "bound" + one, it.bound(a), model.bound(a)); break;
                case 14: due("covers", "covers" + one, it.covers(a), model.covers(a)); break;
                case 15: due("reached", "reached" + two, it.reached(a, b), model.reached(a, b)); break;
                case 16: due("dead", "dead" + one, it.dead(a), model.dead(a)); break;
                case 17: due("alive", "alive" + one, it.alive(a), model.alive(a)); break;
                case 18: due("way", "way" + one, it.way(a), model.way(a)); break;
                case 19: due("flow", "flow(" + a + ", " + b + ", " + c + ")", it.flow(a, b, c), model.flow(a, b, c)); break;
                case 20: due("kept", "kept" + one, it.kept(a), model.kept(a)); break;
                case 21: due("least", "least" + two, it.least(a, b), model.least(a, b)); break;
                case 22: due("trapIn", "trapIn" + one, it.trapIn(a), model.trapIn(a)); break;
                case 23: due("kinds", "kinds()", it.kinds(), model.kinds()); break;
                case 24: due("caught", "caught()", it.caught(), model.caught()); break;
                case 25: due("event", "event" + two, it.event(a, b), model.event(a, b)); break;
                case 26: due("condition", "condition" + two, it.condition(a, b), model.condition(a, b)); break;
                case 27: due("atOnce", "atOnce" + two, it.atOnce(a, b), model.atOnce(a, b)); break;
                case 28: due("leaves", "leaves" + two, it.leaves(a, b), model.leaves(a, b)); break;
                default: due("count", "count" + one, it.count(a), model.count(a)); break;
            }
        }

        private void arc(int t, int p, int what) {
            long got;
            long want;
            try {
                got = it.arc(t, p, what);
            } catch (NoSuchElementException e) {
                got = 12345;
            }
            try {
                want = model.arc(t, p, what);
            } catch (NoSuchElementException e) {
                want = 12345;
            }
            due("arc", "arc(" + t + ", " + p + ", " + what + ")", got, want);
        }
    }

    /** The document's words, with lists and sets. */
    private static final class Model {
        private String text = "";
        private boolean net = false;
        private int places = 0;
        private List<int[]> takes = new ArrayList<>();
        private List<int[]> puts = new ArrayList<>();
        private int[] first = new int[10];
        private int[] now = new int[10];
        private int[] goal = new int[10];
        private final List<int[]> acts = new ArrayList<>();

        private List<int[]> nodes;          // tokens (-9 MANY), then origin, transition, end
        private List<List<Integer>> markings;
        private List<Integer> met;          // transition by which
        private List<Integer> metOf;
        private List<Set<Integer>> reachable;
        private final Map<Integer, List<BigInteger[]>> flows = new HashMap<>();
        private List<Set<Integer>> conditionsOf;
        private List<Integer> eventTransition;
        private List<Boolean> eventCut;
        private List<Integer> conditionPlace;
        private List<Integer> conditionEvent;

        private void changed() {
            nodes = null;
            markings = null;
            conditionsOf = null;
        }

        int sign(int v) {
            if (text.length() + 4 > 240) {
                return -1;
            }
            for (int k = 3; k >= 0; k--) {
                text += (char) (v >> 8 * k & 255);
            }
            return text.length();
        }

        boolean end(int n) {
            if (n < 0 || text.length() < n) {
                return false;
            }
            text = text.substring(0, n);
            return true;
        }

        /** Reads sign by sign with a state: s start of a part, m marks, l left side, r right side. */
        int net() {
            String t = text;
            text = "";
            List<int[]> left = new ArrayList<>();
            List<int[]> right = new ArrayList<>();
            int[] marks = new int[10];
            int[] row = null;
            char state = 's';
            int last = -1;
            for (int i = 0; i < t.length(); i++) {
                char c = t.charAt(i);
                if (c == ' ') {
                    continue;
                }
                if (c >= 'A' && c <= 'J') {
                    if (state == 's') {
                        state = 'l';
                        row = new int[10];
                    }
                    int n = 1;
                    if (i + 1 < t.length() && "123456789".indexOf(t.charAt(i + 1)) >= 0) {
                        n = t.charAt(i + 1) - '0';
                    }
                    row[c - 'A'] += n;
                    if (row[c - 'A'] > (state == 'm' ? 99 : 9)) {
                        return -1000 - i;
                    }
                    last = Math.max(last, c - 'A');
                } else if ("123456789".indexOf(c) >= 0) {
                    char before = i == 0 ? ' ' : t.charAt(i - 1);
                    if (before < 'A' || before > 'J') {
                        return -1000 - i;
                    }
                } else if (c == 'm' && state == 's') {
                    state = 'm';
                    row = marks;
                } else if (c == '>' && (state == 's' || state == 'l') && left.size() < 10) {
                    left.add(state == 's' ? new int[10] : row);
                    row = new int[10];
                    right.add(row);
                    state = 'r';
                } else if (c == ';' && (state == 'm' || state == 'r')) {
                    state = 's';
                    row = null;
                } else {
                    return -1000 - i;
                }
            }
            if (state == 's' || state == 'l' || last < 0) {
                return -1000 - t.length();
            }
            net = true;
            places = last + 1;
            takes = left;
            puts = right;
            first = marks;
            now = marks.clone();
            goal = new int[10];
            acts.clear();
            flows.clear();
            changed();
            return takes.size();
        }

        private boolean place(int p) {
            return net && p >= 0 && p < places;
        }

        private boolean transition(int t) {
            return net && t >= 0 && t < takes.size();
        }

        int arc(int t, int p, int what) {
            if (!transition(t) || !place(p)) {
                throw new NoSuchElementException();
            }
            return what == 0 ? takes.get(t)[p] : what == 1 ? puts.get(t)[p] : -1;
        }

        int tokens(int p, int what) {
            if (!place(p) || what < 0 || what > 2) {
                return -1;
            }
            return (what == 0 ? now : what == 1 ? first : goal)[p];
        }

        private int[] fired(int[] m, int t) {
            int[] r = m.clone();
            for (int p = 0; p < places; p++) {
                r[p] -= takes.get(t)[p];
                if (r[p] < 0) {
                    return null;
                }
            }
            for (int p = 0; p < places; p++) {
                r[p] += puts.get(t)[p];
                if (r[p] > 99) {
                    return null;
                }
            }
            return r;
        }

        private List<Integer> ready(int[] m) {
            List<Integer> r = new ArrayList<>();
            for (int t = 0; t < takes.size(); t++) {
                if (fired(m, t) != null) {
                    r.add(t);
                }
            }
            return r;
        }

        private static int bits(Iterable<Integer> all) {
            int b = 0;
            for (int x : all) {
                b += 1 << x;
            }
            return b;
        }

        int can() {
            return net ? bits(ready(now)) : -1;
        }

        private void act() {
            acts.add(now.clone());
            if (acts.size() > 10) {
                acts.remove(0);
            }
            changed();
        }

        int fire(int t) {
            if (!transition(t)) {
                return -2;
            }
            if (fired(now, t) == null) {
                return -3;
            }
            act();
            now = fired(now, t);
            return ready(now).size();
        }

        int put(int p, int n) {
            if (n < 0 || n > 99) {
                return -1;
            }
            if (!place(p)) {
                return -2;
            }
            act();
            int had = now[p];
            now[p] = n;
            return had;
        }

        int run(int seed, int n) {
            if (seed < 0 || seed > 999999 || n < 1 || n > 200) {
                return -1;
            }
            if (!net) {
                return -2;
            }
            act();
            long s = seed;
            int done = 0;
            while (done < n && !ready(now).isEmpty()) {
                List<Integer> r = ready(now);
                s = (1103 * s + 12345) % 1000003;
                now = fired(now, r.get((int) (s % r.size())));
                done++;
            }
            return done;
        }

        int home() {
            if (!net) {
                return -2;
            }
            act();
            now = first.clone();
            return Arrays.stream(now).sum();
        }

        int undo() {
            if (!net) {
                return -2;
            }
            if (acts.isEmpty()) {
                return -3;
            }
            now = acts.remove(acts.size() - 1);
            changed();
            return acts.size();
        }

        int goal(int p, int n) {
            if (n < 0 || n > 99) {
                return -1;
            }
            if (!place(p)) {
                return -2;
            }
            int had = goal[p];
            goal[p] = n;
            return had;
        }

        private static boolean less(int a, int b) {
            return a != b && (b == -9 || (a != -9 && a < b));
        }

        private boolean coveredTooMany() {
            if (nodes == null) {
                unfoldCover();
            }
            return nodes.size() > 200;
        }

        private void unfoldCover() {
            nodes = new ArrayList<>();
            int[] root = Arrays.copyOf(now, 13);
            root[10] = -1;
            root[11] = -1;
            nodes.add(root);
            for (int i = 0; i < nodes.size() && nodes.size() <= 200; i++) {
                int[] n = nodes.get(i);
                for (int j = 0; j < i; j++) {
                    if (Arrays.equals(n, 0, places, nodes.get(j), 0, places)) {
                        n[12] = 2;
                    }
                }
                if (n[12] == 2) {
                    continue;
                }
                int before = nodes.size();
                for (int t = 0; t < takes.size(); t++) {
                    int[] come = comes(n, t);
                    if (come != null) {
                        come[10] = i;
                        come[11] = t;
                        nodes.add(come);
                    }
                }
                n[12] = nodes.size() == before ? 1 : 0;
                for (int k = before; k < nodes.size(); k++) {
                    grow(nodes.get(k));
                }
            }
        }

        private int[] comes(int[] n, int t) {
            int[] r = new int[13];
            for (int p = 0; p < places; p++) {
                if (less(n[p], takes.get(t)[p])) {
                    return null;
                }
                r[p] = n[p] == -9 ? -9 : n[p] - takes.get(t)[p] + puts.get(t)[p];
            }
            return r;
        }

        private void grow(int[] n) {
            for (int b = n[10]; b >= 0; b = nodes.get(b)[10]) {
                int[] old = nodes.get(b);
                List<Integer> lesser = new ArrayList<>();
                boolean more = false;
                for (int p = 0; p < places; p++) {
                    more |= less(n[p], old[p]);
                    if (less(old[p], n[p])) {
                        lesser.add(p);
                    }
                }
                if (!more) {
                    for (int p : lesser) {
                        n[p] = -9;
                    }
                }
            }
        }

        int node(int i, int what) {
            if (!net || i < -1 || (i == -1 && what != 0)) {
                return -1;
            }
            if (!place(what) && what != 10 && what != 11 && what != 12) {
                return -1;
            }
            if (coveredTooMany()) {
                return -2;
            }
            return i == -1 ? nodes.size() : i < nodes.size() ? nodes.get(i)[what] : -1;
        }

        int bound(int p) {
            if (!place(p)) {
                return -1;
            }
            if (coveredTooMany()) {
                return -2;
            }
            int most = 0;
            for (int[] n : nodes) {
                most = less(most, n[p]) ? n[p] : most;
            }
            return most;
        }

        int covers(int what) {
            if (!net || what < 0 || what > 1) {
                return -1;
            }
            if (coveredTooMany()) {
                return -2;
            }
            List<Integer> such = new ArrayList<>();
            for (int i = 0; i < nodes.size(); i++) {
                boolean all = true;
                for (int p = 0; p < places; p++) {
                    all &= !less(nodes.get(i)[p], goal[p]);
                }
                if (all) {
                    such.add(i);
                }
            }
            return what == 1 ? such.size() : such.isEmpty() ? -3 : such.get(0);
        }

        private static int[] ints(List<Integer> l) {
            return l.stream().mapToInt(x -> x).toArray();
        }

        private static List<Integer> list(int[] a) {
            List<Integer> l = new ArrayList<>();
            for (int x : a) {
                l.add(x);
            }
            return l;
        }

        private boolean markingsTooMany() {
            if (markings == null) {
                findMarkings();
            }
            return markings.size() > 300;
        }

        private void findMarkings() {
            markings = new ArrayList<>();
            met = new ArrayList<>();
            metOf = new ArrayList<>();
            Map<List<Integer>, Integer> numbers = new LinkedHashMap<>();
            List<List<Integer>> nexts = new ArrayList<>();
            markings.add(list(now));
            met.add(-1);
            metOf.add(-1);
            numbers.put(list(now), 0);
            for (int i = 0; i < markings.size() && markings.size() <= 300; i++) {
                List<Integer> next = new ArrayList<>();
                for (int t = 0; t < takes.size(); t++) {
                    int[] f = fired(ints(markings.get(i)), t);
                    if (f != null) {
                        if (!numbers.containsKey(list(f))) {
                            numbers.put(list(f), markings.size());
                            markings.add(list(f));
                            met.add(t);
                            metOf.add(i);
                        }
                        next.add(numbers.get(list(f)));
                    }
                }
                nexts.add(next);
            }
            reachable = new ArrayList<>();
            if (markings.size() <= 300) {
                for (int i = 0; i < markings.size(); i++) {
                    Set<Integer> seen = new HashSet<>();
                    List<Integer> open = new ArrayList<>(List.of(i));
                    while (!open.isEmpty()) {
                        int x = open.remove(open.size() - 1);
                        if (seen.add(x)) {
                            open.addAll(nexts.get(x));
                        }
                    }
                    reachable.add(seen);
                }
            }
        }

        private List<Integer> pathTo(int i) {
            List<Integer> path = new ArrayList<>();
            for (int x = i; x > 0; x = metOf.get(x)) {
                path.add(0, met.get(x));
            }
            return path;
        }

        int reached(int i, int what) {
            if (!net || i < -1 || (i == -1 && what != 0) || (!place(what) && what != 10 && what != 11)) {
                return -1;
            }
            if (markingsTooMany()) {
                return -2;
            }
            if (i == -1) {
                return markings.size();
            }
            if (i >= markings.size()) {
                return -1;
            }
            return what == 10 ? bits(ready(ints(markings.get(i)))) : what == 11 ? pathTo(i).size() : markings.get(i).get(what);
        }

        int dead(int what) {
            if (!net || what < 0 || what > 3) {
                return -1;
            }
            if (markingsTooMany()) {
                return -2;
            }
            TreeSet<Integer> dead = new TreeSet<>();
            for (int i = 0; i < markings.size(); i++) {
                if (ready(ints(markings.get(i))).isEmpty()) {
                    dead.add(i);
                }
            }
            if (what == 0) {
                return dead.size();
            }
            if (what == 1) {
                return dead.isEmpty() ? -3 : dead.first();
            }
            int n = 0;
            for (Set<Integer> r : reachable) {
                n += what == 2 ? (r.contains(0) ? 1 : 0) : (java.util.Collections.disjoint(r, dead) ? 0 : 1);
            }
            return n;
        }

        int alive(int t) {
            if (!transition(t)) {
                return -1;
            }
            if (markingsTooMany()) {
                return -2;
            }
            Set<Integer> at = new HashSet<>();
            for (int i = 0; i < markings.size(); i++) {
                if (fired(ints(markings.get(i)), t) != null) {
                    at.add(i);
                }
            }
            boolean always = true;
            for (Set<Integer> r : reachable) {
                always &= !java.util.Collections.disjoint(r, at);
            }
            return always ? 2 : at.isEmpty() ? 0 : 1;
        }

        int way(int i) {
            if (!net || i < -1) {
                return -1;
            }
            if (markingsTooMany()) {
                return -2;
            }
            int at = markings.indexOf(list(goal));
            if (at < 0) {
                return -3;
            }
            List<Integer> path = pathTo(at);
            return i == -1 ? path.size() : i < path.size() ? path.get(i) : -1;
        }

        private int[][] changes(int kind) {
            int rows = kind == 0 ? places : takes.size();
            int columns = kind == 0 ? takes.size() : places;
            int[][] m = new int[rows][columns];
            for (int r = 0; r < rows; r++) {
                for (int c = 0; c < columns; c++) {
                    int t = kind == 0 ? c : r;
                    int p = kind == 0 ? r : c;
                    m[r][c] = puts.get(t)[p] - takes.get(t)[p];
                }
            }
            return m;
        }

        /** null: too far. Otherwise found by the supports alone, not by the work. */
        private List<BigInteger[]> flowsOf(int kind) {
            if (!flows.containsKey(kind)) {
                int[][] m = changes(kind);
                List<BigInteger[]> worked = work(m);
                if (worked != null) {
                    List<BigInteger[]> direct = bySupports(m);
                    Set<String> a = new TreeSet<>();
                    Set<String> b = new TreeSet<>();
                    worked.forEach(x -> a.add(Arrays.toString(x)));
                    direct.forEach(x -> b.add(Arrays.toString(x)));
                    if (!a.equals(b)) {
                        throw new AssertionError("the model's flows differ: " + a + " and " + b);
                    }
                    worked = direct;
                }
                flows.put(kind, worked);
            }
            return flows.get(kind);
        }

        private static Set<Integer> support(BigInteger[] x) {
            Set<Integer> s = new TreeSet<>();
            for (int k = 0; k < x.length; k++) {
                if (x[k].signum() != 0) {
                    s.add(k);
                }
            }
            return s;
        }

        private static BigInteger change(BigInteger[] x, int[][] m, int step) {
            BigInteger sum = BigInteger.ZERO;
            for (int k = 0; k < x.length; k++) {
                sum = sum.add(x[k].multiply(BigInteger.valueOf(m[k][step])));
            }
            return sum;
        }

        private static BigInteger[] leastTerms(BigInteger[] x) {
            BigInteger g = BigInteger.ZERO;
            for (BigInteger n : x) {
                g = g.gcd(n);
            }
            BigInteger[] r = x.clone();
            for (int k = 0; k < r.length && g.signum() > 0; k++) {
                r[k] = r[k].divide(g);
            }
            return r;
        }

        private static List<BigInteger[]> work(int[][] m) {
            BigInteger limit = BigInteger.valueOf(1000000000);
            List<BigInteger[]> rows = new ArrayList<>();
            for (int k = 0; k < m.length; k++) {
                BigInteger[] x = new BigInteger[m.length];
                Arrays.fill(x, BigInteger.ZERO);
                x[k] = BigInteger.ONE;
                rows.add(x);
            }
            int steps = m.length == 0 ? 0 : m[0].length;
            for (int s = 0; s < steps; s++) {
                List<BigInteger[]> all = new ArrayList<>();
                for (BigInteger[] a : rows) {
                    BigInteger ca = change(a, m, s);
                    if (ca.signum() == 0) {
                        all.add(a);
                    }
                    for (BigInteger[] b : rows) {
                        BigInteger cb = change(b, m, s);
                        if (ca.signum() > 0 && cb.signum() < 0) {
                            BigInteger[] sum = new BigInteger[m.length];
                            for (int k = 0; k < m.length; k++) {
                                sum[k] = a[k].multiply(cb.abs()).add(b[k].multiply(ca.abs()));
                            }
                            sum = leastTerms(sum);
                            for (BigInteger n : sum) {
                                if (n.compareTo(limit) > 0) {
                                    return null;
                                }
                            }
                            for (int u = 0; u < steps; u++) {
                                if (change(sum, m, u).abs().compareTo(limit) > 0) {
                                    return null;
                                }
                            }
                            all.add(sum);
                        }
                    }
                }
                if (all.size() > 300) {
                    return null;
                }
                Map<Set<Integer>, BigInteger[]> bySupport = new LinkedHashMap<>();
                for (BigInteger[] x : all) {
                    bySupport.putIfAbsent(support(x), x);
                }
                rows = new ArrayList<>();
                for (Set<Integer> x : bySupport.keySet()) {
                    boolean goes = false;
                    for (Set<Integer> y : bySupport.keySet()) {
                        goes |= x.size() > y.size() && x.containsAll(y);
                    }
                    if (!goes) {
                        rows.add(bySupport.get(x));
                    }
                }
            }
            return rows;
        }

        /** Support by support, rising: of such rows alone one way to nothing, with numbers above 0. */
        private static List<BigInteger[]> bySupports(int[][] m) {
            List<BigInteger[]> found = new ArrayList<>();
            List<Integer> sets = new ArrayList<>();
            for (int set = 1; set < 1 << m.length; set++) {
                final int s = set;
                if (sets.stream().anyMatch(x -> (x & s) == x)) {
                    continue;
                }
                BigInteger[] x = onlySolution(m, set);
                if (x != null) {
                    found.add(x);
                    sets.add(set);
                }
            }
            return found;
        }

        private static BigInteger[] onlySolution(int[][] m, int set) {
            int[] at = java.util.stream.IntStream.range(0, m.length).filter(k -> (set >> k & 1) == 1).toArray();
            int steps = m[0].length;
            int n = at.length;
            BigInteger[][] e = new BigInteger[steps][n];
            for (int s = 0; s < steps; s++) {
                for (int k = 0; k < n; k++) {
                    e[s][k] = BigInteger.valueOf(m[at[k]][s]);
                }
            }
            int rank = 0;
            int[] pivot = new int[n];
            Arrays.fill(pivot, -1);
            int free = -1;
            int frees = 0;
            for (int k = 0; k < n; k++) {
                int r = rank;
                while (r < steps && e[r][k].signum() == 0) {
                    r++;
                }
                if (r == steps) {
                    free = k;
                    frees++;
                    continue;
                }
                BigInteger[] swap = e[r];
                e[r] = e[rank];
                e[rank] = swap;
                for (int o = 0; o < steps; o++) {
                    if (o != rank && e[o][k].signum() != 0) {
                        BigInteger f = e[o][k];
                        BigInteger g = e[rank][k];
                        for (int j = 0; j < n; j++) {
                            e[o][j] = e[o][j].multiply(g).subtract(e[rank][j].multiply(f));
                        }
                    }
                }
                pivot[k] = rank;
                rank++;
            }
            if (frees != 1) {
                return null;
            }
            BigInteger scale = BigInteger.ONE;
            for (int k = 0; k < n; k++) {
                if (pivot[k] >= 0) {
                    scale = scale.multiply(e[pivot[k]][k]).abs();
                }
            }
            BigInteger[] x = new BigInteger[m.length];
            Arrays.fill(x, BigInteger.ZERO);
            for (int k = 0; k < n; k++) {
                x[at[k]] = k == free ? scale
                    : e[pivot[k]][free].negate().multiply(scale).divide(e[pivot[k]][k]);
                if (x[at[k]].signum() <= 0) {
                    return null;
                }
            }
            return leastTerms(x);
        }

        int flow(int kind, int i, int k) {
            if (!net || kind < 0 || kind > 1 || i < -1) {
                return -1;
            }
            // k is the number of a place or of a transition: none such comes ahead of -2.
            if (i >= 0 && (k < 0 || k >= (kind == 0 ? places : takes.size()))) {
                return -1;
            }
            List<BigInteger[]> f = flowsOf(kind);
            if (f == null) {
                return -2;
            }
            if (i == -1) {
                return f.size();
            }
            return i < f.size() && k < f.get(i).length ? f.get(i)[k].intValueExact() : -1;
        }

        int kept(int i) {
            if (!net || i < 0) {
                return -1;
            }
            List<BigInteger[]> f = flowsOf(0);
            if (f == null) {
                return -2;
            }
            if (i >= f.size()) {
                return -1;
            }
            BigInteger sum = BigInteger.ZERO;
            for (int p = 0; p < places; p++) {
                sum = sum.add(f.get(i)[p].multiply(BigInteger.valueOf(now[p])));
            }
            return sum.min(BigInteger.valueOf(Integer.MAX_VALUE)).intValue();
        }

        private boolean touches(int[] row, int set) {
            for (int p = 0; p < places; p++) {
                if (row[p] > 0 && (set >> p & 1) == 1) {
                    return true;
                }
            }
            return false;
        }

        private boolean isSet(int kind, int set) {
            for (int t = 0; t < takes.size(); t++) {
                boolean out = touches(takes.get(t), set);
                boolean in = touches(puts.get(t), set);
                if (kind == 0 ? in && !out : out && !in) {
                    return false;
                }
            }
            return set != 0;
        }

        private List<Integer> leastSets(int kind) {
            List<Integer> r = new ArrayList<>();
            for (int set = 1; set < 1 << places; set++) {
                boolean least = isSet(kind, set);
                for (int in = set - 1 & set; in > 0 && least; in = in - 1 & set) {
                    least = !isSet(kind, in);
                }
                if (least) {
                    r.add(set);
                }
            }
            return r;
        }

        int least(int kind, int i) {
            if (!net || kind < 0 || kind > 1 || i < -1) {
                return -1;
            }
            List<Integer> l = leastSets(kind);
            return i == -1 ? l.size() : i < l.size() ? l.get(i) : -1;
        }

        int trapIn(int set) {
            if (!net || set < 0 || set >= 1 << places) {
                return -1;
            }
            int best = 0;
            for (int in = set; in > 0; in = in - 1 & set) {
                if (isSet(1, in) && Integer.bitCount(in) > Integer.bitCount(best)) {
                    best = in;
                }
            }
            return best;
        }

        int kinds() {
            if (!net) {
                return -1;
            }
            boolean plain = true, pure = true, machine = true, circuit = true, free = true;
            for (int p = 0; p < places; p++) {
                int out = 0;
                int in = 0;
                for (int t = 0; t < takes.size(); t++) {
                    int a = takes.get(t)[p];
                    int b = puts.get(t)[p];
                    plain &= a <= 1 && b <= 1;
                    pure &= a == 0 || b == 0;
                    out += a > 0 ? 1 : 0;
                    in += b > 0 ? 1 : 0;
                    for (int u = 0; u < takes.size(); u++) {
                        if (a > 0 && takes.get(u)[p] > 0) {
                            for (int q = 0; q < places; q++) {
                                free &= takes.get(t)[q] > 0 == takes.get(u)[q] > 0;
                            }
                        }
                    }
                }
                circuit &= out <= 1 && in <= 1;
            }
            for (int t = 0; t < takes.size(); t++) {
                machine &= Arrays.stream(takes.get(t)).sum() == 1 && Arrays.stream(puts.get(t)).sum() == 1;
            }
            return (plain ? 1 : 0) | (pure ? 2 : 0) | (machine ? 4 : 0) | (circuit ? 8 : 0) | (free ? 16 : 0);
        }

        int caught() {
            if (!net) {
                return -1;
            }
            for (int s : leastSets(0)) {
                boolean full = false;
                for (int in = s; in > 0; in = in - 1 & s) {
                    full |= isSet(1, in) && touches(now, in);
                }
                if (!full) {
                    return 0;
                }
            }
            return 1;
        }

        private Set<Integer> pastOf(Iterable<Integer> conditions) {
            Set<Integer> past = new TreeSet<>();
            gather(conditions, past);
            return past;
        }

        private void gather(Iterable<Integer> conditions, Set<Integer> past) {
            for (int c : conditions) {
                int e = conditionEvent.get(c);
                if (e >= 0 && past.add(e)) {
                    gather(conditionsOf.get(e), past);
                }
            }
        }

        private Set<Integer> pastOfEvent(int e) {
            Set<Integer> past = pastOf(conditionsOf.get(e));
            past.add(e);
            return past;
        }

        private boolean together(int a, int b) {
            if (a == b) {
                return false;
            }
            Set<Integer> pa = pastOf(List.of(a));
            Set<Integer> pb = pastOf(List.of(b));
            for (int e : pa) {
                if (conditionsOf.get(e).contains(b)) {
                    return false;
                }
            }
            for (int e : pb) {
                if (conditionsOf.get(e).contains(a)) {
                    return false;
                }
            }
            Set<Integer> all = new TreeSet<>(pa);
            all.addAll(pb);
            Set<Integer> used = new HashSet<>();
            for (int e : all) {
                for (int c : conditionsOf.get(e)) {
                    if (!used.add(c)) {
                        return false;
                    }
                }
            }
            return true;
        }

        private List<Integer> left(Set<Integer> past) {
            int[] m = now.clone();
            for (int e : past) {
                int t = eventTransition.get(e);
                for (int p = 0; p < places; p++) {
                    m[p] += puts.get(t)[p] - takes.get(t)[p];
                }
            }
            return list(m);
        }

        private boolean unfoldingTooMany() {
            if (Arrays.stream(now).sum() > 12) {
                return true;
            }
            for (int[] t : takes) {
                if (Arrays.stream(t).sum() > 3) {
                    return true;
                }
            }
            if (conditionsOf == null) {
                unfold();
            }
            return conditionsOf.size() > 30 || conditionPlace.size() > 80;
        }

        private void unfold() {
            conditionsOf = new ArrayList<>();
            eventTransition = new ArrayList<>();
            eventCut = new ArrayList<>();
            conditionPlace = new ArrayList<>();
            conditionEvent = new ArrayList<>();
            addConditions(now, -1);
            Map<List<Integer>, Boolean> known = new HashMap<>();
            while (conditionsOf.size() <= 30 && conditionPlace.size() <= 80) {
                int[] best = null;
                for (int t = 0; t < takes.size(); t++) {
                    for (List<Integer> row : rows(t, new ArrayList<>(), known)) {
                        boolean old = false;
                        for (int e = 0; e < conditionsOf.size(); e++) {
                            old |= eventTransition.get(e) == t && conditionsOf.get(e).equals(new TreeSet<>(row));
                        }
                        if (!old) {
                            int[] x = new int[2 + row.size()];
                            x[0] = pastOf(row).size() + 1;
                            x[1] = t;
                            for (int k = 0; k < row.size(); k++) {
                                x[2 + k] = row.get(k);
                            }
                            best = best == null || Arrays.compare(x, best) < 0 ? x : best;
                        }
                    }
                }
                if (best == null) {
                    return;
                }
                addEvent(best);
            }
        }

        private void addEvent(int[] best) {
            Set<Integer> row = new TreeSet<>();
            for (int k = 2; k < best.length; k++) {
                row.add(best[k]);
            }
            int e = conditionsOf.size();
            conditionsOf.add(row);
            eventTransition.add(best[1]);
            List<Integer> leaves = left(pastOfEvent(e));
            boolean cut = leaves.equals(list(now));
            for (int f = 0; f < e; f++) {
                cut |= pastOfEvent(f).size() < pastOfEvent(e).size() && left(pastOfEvent(f)).equals(leaves);
            }
            eventCut.add(cut);
            addConditions(puts.get(best[1]), e);
        }

        private void addConditions(int[] tokens, int e) {
            for (int p = 0; p < places; p++) {
                for (int k = 0; k < tokens[p]; k++) {
                    conditionPlace.add(p);
                    conditionEvent.add(e);
                }
            }
        }

        private List<List<Integer>> rows(int t, List<Integer> begun, Map<List<Integer>, Boolean> known) {
            int need = Arrays.stream(takes.get(t)).sum();
            List<List<Integer>> all = new ArrayList<>();
            if (need == 0) {
                return all;
            }
            if (begun.size() == need) {
                all.add(begun);
                return all;
            }
            for (int c = begun.isEmpty() ? 0 : begun.get(begun.size() - 1) + 1; c < conditionPlace.size(); c++) {
                int p = conditionPlace.get(c);
                long have = begun.stream().filter(x -> conditionPlace.get(x) == p).count();
                int e = conditionEvent.get(c);
                boolean fits = have < takes.get(t)[p] && (e < 0 || !eventCut.get(e));
                for (int k = 0; k < begun.size() && fits; k++) {
                    List<Integer> pair = List.of(begun.get(k), c);
                    fits = known.computeIfAbsent(pair, x -> together(x.get(0), x.get(1)));
                }
                if (fits) {
                    List<Integer> more = new ArrayList<>(begun);
                    more.add(c);
                    all.addAll(rows(t, more, known));
                }
            }
            return all;
        }

        int event(int i, int what) {
            if (!net || i < -1 || what < 0 || (i == -1 && what != 0)) {
                return -1;
            }
            if (unfoldingTooMany()) {
                return -2;
            }
            if (i == -1) {
                return conditionsOf.size();
            }
            if (i >= conditionsOf.size()) {
                return -1;
            }
            if (what < 3) {
                return what == 0 ? eventTransition.get(i) : what == 1 ? pastOfEvent(i).size() : eventCut.get(i) ? 1 : 0;
            }
            List<Integer> row = new ArrayList<>(conditionsOf.get(i));
            return what - 3 < row.size() ? row.get(what - 3) : -3;
        }

        int condition(int i, int what) {
            if (!net || i < -1 || what < 0 || what > 1 || (i == -1 && what != 0)) {
                return -1;
            }
            if (unfoldingTooMany()) {
                return -2;
            }
            if (i == -1) {
                return conditionPlace.size();
            }
            if (i >= conditionPlace.size()) {
                return -1;
            }
            return what == 0 ? conditionPlace.get(i) : conditionEvent.get(i) < 0 ? -3 : conditionEvent.get(i);
        }

        int atOnce(int a, int b) {
            if (!net || a < 0 || b < 0) {
                return -1;
            }
            if (unfoldingTooMany()) {
                return -2;
            }
            if (a >= conditionPlace.size() || b >= conditionPlace.size()) {
                return -1;
            }
            return together(a, b) ? 1 : 0;
        }

        int leaves(int e, int p) {
            if (e < 0 || !place(p)) {
                return -1;
            }
            if (unfoldingTooMany()) {
                return -2;
            }
            return e < conditionsOf.size() ? left(pastOfEvent(e)).get(p) : -1;
        }

        int count(int what) {
            switch (what) {
                case 0: return places;
                case 1: return takes.size();
                case 2: return Arrays.stream(now).sum();
                case 3: return text.length();
                case 4: return acts.size();
                default: return -1;
            }
        }
    }
}
