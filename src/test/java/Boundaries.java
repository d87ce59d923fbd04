import java.io.IOException;
import java.nio.file.Files;
import java.nio.file.Path;
import java.util.ArrayList;
import java.util.Arrays;
import java.util.List;
import java.util.NoSuchElementException;

/**
 * Each sentence of the document that names a boundary case (too small, too large, empty, full, a wrap-around, a
 * refused call) has a test of its own here, which begins with the sentence's words.
 * With the document's path as an argument it tells which words do not stand in the document any more.
 */
public final class Boundaries {
    private static final int LEAST = Integer.MIN_VALUE;
    private static final int GREATEST = Integer.MAX_VALUE;
    private static final int NONE = -1;
    private static final int MANY = -9;
    private static final int THROWN = 777777;
    private static final String RING = "mA;A>B;B>A";
    private static final String TEN = ">;>;>;>;>;>;>;>;>;>";
    /** 201 nodes of 2 places and 3 transitions with 66 tokens in A, and 198 with 65. */
    private static final String WIDE = "A>B;>;>";
    /** (a + 1) times (c + 1) markings with a tokens in A, c in C. */
    private static final String GRID = "A>B;C>D";
    private static final String NINES = "A>B9;B>C9;C>D9;D>E9;E>F9;F>G9;G>H9;H>I9;I>J9";
    private static final List<String> WORDS = new ArrayList<>();
    private static String sentence = "";
    private static int wrong = 0;
    private static int done = 0;

    private static void said(String words) {
        sentence = words;
        WORDS.add(words);
    }

    private static void due(String what, int got, int want) {
        done++;
        if (got != want) {
            wrong++;
            System.out.println("\"" + sentence + "\": " + what + " answered " + got + ", due is " + want);
        }
    }

    private static void due(String what, boolean got, boolean want) {
        due(what, got ? 1 : 0, want ? 1 : 0);
    }

    private static void row(String what, int[] got, int... want) {
        done++;
        if (!Arrays.equals(got, want)) {
            wrong++;
            System.out.println("\"" + sentence + "\": " + what + " answered " + Arrays.toString(got) + ", due is "
                + Arrays.toString(want));
        }
    }

    // ---- what the tests share

    private static int four(String text, int i) {
        return text.charAt(i) << 24 | text.charAt(i + 1) << 16 | text.charAt(i + 2) << 8 | text.charAt(i + 3);
    }

    private static void write(PlaceNets x, String text) {
        String full = text + " ".repeat((4 - text.length() % 4) % 4);
        for (int i = 0; i < full.length(); i += 4) {
            x.sign(four(full, i));
        }
        x.end(text.length());
    }

    private static int tell(PlaceNets x, String text) {
        x.end(0);
        write(x, text);
        return x.net();
    }

    /** What net() answers a new object for the text. */
    private static int read(String text) {
        return tell(new PlaceNets(), text);
    }

    private static void faultAt(String text, int p) {
        due("net() of [" + text + "]", read(text), -1000 - p);
    }

    private static void noFault(String text, int transitions) {
        due("net() of [" + text + "]", read(text), transitions);
    }

    private static PlaceNets of(String text) {
        PlaceNets x = new PlaceNets();
        due("net() of [" + text + "] has no fault", tell(x, text) >= 0, true);
        return x;
    }

    /** The net with tokens put into A, B, .. */
    private static PlaceNets with(String text, int... tokens) {
        PlaceNets x = of(text);
        for (int p = 0; p < tokens.length; p++) {
            x.put(p, tokens[p]);
        }
        return x;
    }

    private static int arc(PlaceNets x, int t, int p, int what) {
        try {
            return x.arc(t, p, what);
        } catch (NoSuchElementException e) {
            return THROWN;
        }
    }

    private static int[] tokens(PlaceNets x, int what) {
        int[] m = new int[x.count(0)];
        for (int p = 0; p < m.length; p++) {
            m[p] = x.tokens(p, what);
        }
        return m;
    }

    private static int[] now(PlaceNets x) {
        return tokens(x, 0);
    }

    /** What is in the places of a node. */
    private static int[] node(PlaceNets x, int i) {
        int[] n = new int[x.count(0)];
        for (int p = 0; p < n.length; p++) {
            n[p] = x.node(i, p);
        }
        return n;
    }

    private static int[] reached(PlaceNets x, int i) {
        int[] n = new int[x.count(0)];
        for (int p = 0; p < n.length; p++) {
            n[p] = x.reached(i, p);
        }
        return n;
    }

    private static int[] flow(PlaceNets x, int kind, int i) {
        int[] f = new int[x.count(kind)];
        for (int k = 0; k < f.length; k++) {
            f[k] = x.flow(kind, i, k);
        }
        return f;
    }

    private static int[] sets(PlaceNets x, int kind) {
        int[] s = new int[Math.max(0, x.least(kind, NONE))];
        for (int i = 0; i < s.length; i++) {
            s[i] = x.least(kind, i);
        }
        return s;
    }

    /** Transition, size of the past, cut, then the conditions. */
    private static int[] event(PlaceNets x, int i) {
        int n = 3;
        while (n < 9 && x.event(i, n) >= 0) {
            n++;
        }
        int[] e = new int[n];
        for (int k = 0; k < n; k++) {
            e[k] = x.event(i, k);
        }
        return e;
    }

    private static int[] leaves(PlaceNets x, int event) {
        int[] m = new int[x.count(0)];
        for (int p = 0; p < m.length; p++) {
            m[p] = x.leaves(event, p);
        }
        return m;
    }

    /** All of the net, the marking, the goal and the acts that calls can tell; not the text. */
    private static int[] state(PlaceNets x) {
        List<Integer> all = new ArrayList<>();
        for (int what : new int[] {0, 1, 2, 4}) {
            all.add(x.count(what));
        }
        for (int what = 0; what < 3; what++) {
            for (int n : tokens(x, what)) {
                all.add(n);
            }
        }
        for (int t = 0; t < x.count(1); t++) {
            for (int p = 0; p < x.count(0); p++) {
                all.add(x.arc(t, p, 0));
                all.add(x.arc(t, p, 1));
            }
        }
        return all.stream().mapToInt(Integer::intValue).toArray();
    }

    /** The net whose transitions are the places of this one, and the other way round: rounds for flows. */
    private static String turned(String text) {
        PlaceNets x = of(text);
        StringBuilder s = new StringBuilder();
        for (int p = 0; p < x.count(0); p++) {
            StringBuilder left = new StringBuilder();
            StringBuilder right = new StringBuilder();
            for (int t = 0; t < x.count(1); t++) {
                int change = x.arc(t, p, 1) - x.arc(t, p, 0);
                if (change != 0) {
                    (change < 0 ? left : right).append((char) ('A' + t)).append(Math.abs(change));
                }
            }
            s.append(p == 0 ? "" : ";").append(left).append('>').append(right);
        }
        return s.toString();
    }

    // ---- term 1: the text and the net

    private static void textOf240() {
        said("THE TEXT (240 signs at most)");
        String parts = "m;".repeat(119) + "mA";
        PlaceNets x = new PlaceNets();
        for (int i = 0; i < 240; i += 4) {
            due("sign() " + i, x.sign(four(parts, i)), i + 4);
        }
        due("sign() beyond", x.sign(0x20202020), NONE);
        due("signs", x.count(3), 240);
        due("net() of 120 parts", x.net(), 0);
        due("places", x.count(0), 1);
        noFault("A" + " ".repeat(238) + ">", 1);
        noFault(">" + "A".repeat(9) + " ".repeat(229) + "J", 1);
        due("places by the 240th sign", of("A>" + " ".repeat(237) + "J").count(0), 10);
    }

    private static void partsByThemselves() {
        said("PART {; PART}");
        noFault("mA", 0);
        noFault("A>", 1);
        noFault("A>;mA;>", 2);
        faultAt("", 0);
        faultAt("mA;", 3);
        faultAt("A>;", 3);
        faultAt(";mA", 0);
        faultAt("mA;;mA", 3);
    }

    private static void marksOfNothing() {
        said("m {TOKENS} (the FIRST MARKING has these more)");
        noFault("m;A>", 1);
        row("m without tokens", now(of("m;A>B")), 0, 0);
        row("no m", now(of("A>B")), 0, 0);
        row("three of them", now(of("mA;A>B;mB2A3;m")), 4, 2);
    }

    private static void sidesOfNothing() {
        said("{TOKENS} > {TOKENS}");
        PlaceNets x = of("mB;>;A>;>A");
        due("transitions", x.count(1), 3);
        int[] arcs = new int[6];
        for (int t = 0; t < 3; t++) {
            arcs[2 * t] = x.arc(t, 0, 0);
            arcs[2 * t + 1] = x.arc(t, 0, 1);
        }
        row("A", arcs, 0, 0, 1, 0, 0, 1);
        due("one of nothing can fire", x.can(), 1 + 4);
        due("it fires", x.fire(0), 2);
        row("and changes nothing", now(x), 0, 1);
        due("and is an act", x.count(4), 1);
    }

    private static void tenTransitions() {
        said("numbered from 0 on, 10 at most");
        PlaceNets x = of(TEN + "A");
        due("the 10th", arc(x, 9, 0, 1), 1);
        due("the first", arc(x, 0, 0, 1), 0);
        due("an 11th", arc(x, 10, 0, 1), THROWN);
        due("none", of("mA").count(1), 0);
        due("all can", x.can(), 1023);
    }

    private static void lettersOfPlaces() {
        said("a PLACE A .. J");
        noFault("A>", 1);
        noFault("J>", 1);
        faultAt("@>", 0);
        faultAt("K>", 0);
        faultAt(">@", 1);
        faultAt(">K", 1);
        faultAt("m@", 1);
        faultAt("mK", 1);
        faultAt("a>", 0);
        faultAt("j>", 0);
        faultAt("M>", 0);
        due("A is the first", of("mA7").tokens(0, 0), 7);
        due("J is the tenth", of("mJ7").tokens(9, 0), 7);
    }

    private static void numbersBehindPlaces() {
        said("perhaps a NUMBER 1 .. 9 right behind it (1 without)");
        due("1", of("A1>").arc(0, 0, 0), 1);
        due("9", of("A9>").arc(0, 0, 0), 9);
        due("without", of("A>").arc(0, 0, 0), 1);
        faultAt("A0>", 1);
        faultAt("A:>", 1);
        faultAt("A/>", 1);
        faultAt("mA0", 2);
        faultAt("A 1>", 2);
        faultAt("A11>", 2);
        faultAt("A1 1>", 3);
        faultAt("1>", 0);
        faultAt(">1", 1);
        faultAt("m1", 1);
        faultAt("A>B;2", 4);
    }

    private static void placesToldAgain() {
        said("a PLACE told again counts together");
        due("takes", of("A4BA5>A2").arc(0, 0, 0), 9);
        due("puts", of(">AB2A3AB").arc(0, 0, 1), 5);
        due("puts B", of(">AB2A3AB").arc(0, 1, 1), 3);
        due("first marking", of("mA9BA9;mA").tokens(0, 1), 19);
    }

    private static void placesUpToTheLast() {
        said("PLACES are A up to the last letter told, one at least");
        due("A alone", of("mA").count(0), 1);
        due("J alone", of("mJ").count(0), 10);
        due("J first", of("mJA").count(0), 10);
        due("the last in what is taken", of("mA;C>B").count(0), 3);
        due("the last in what is put", of("mA;B>D").count(0), 4);
        due("the last in m", of("mE;B>D").count(0), 5);
        due("of the new net alone", told(of("mJ"), "mB").count(0), 2);
    }

    private static PlaceNets told(PlaceNets x, String text) {
        tell(x, text);
        return x;
    }

    /** A ring through all ten places; the transition behind the first one has to do with A. */
    private static void tenOfBoth() {
        said("a PLACE A .. J");
        PlaceNets x = of("mA;B>C;A>B;C>D;D>E;E>F;F>G;G>H;H>I;I>J;J>A");
        row("all of it", new int[] {x.count(0), x.count(1), x.kinds(), x.can(), x.node(NONE, 0), x.node(10, 12),
            x.reached(NONE, 0), x.dead(2), x.alive(0), x.alive(9), x.bound(9), x.caught()},
            10, 10, 31, 2, 11, 2, 10, 10, 2, 2, 1, 1);
        row("flows", flow(x, 0, 0), 1, 1, 1, 1, 1, 1, 1, 1, 1, 1);
        row("rounds", flow(x, 1, 0), 1, 1, 1, 1, 1, 1, 1, 1, 1, 1);
        row("siphons", sets(x, 0), 1023);
        row("traps", sets(x, 1), 1023);
        row("events", new int[] {x.event(NONE, 0), x.event(0, 0), x.event(1, 0), x.event(9, 0), x.event(9, 2)},
            10, 1, 0, 9, 1);
        row("conditions", new int[] {x.condition(NONE, 0), x.condition(9, 0), x.condition(10, 0), x.condition(10, 1)},
            11, 9, 0, 9);
        row("left", leaves(x, 8), 0, 0, 0, 0, 0, 0, 0, 0, 0, 1);
        x.goal(9, 1);
        row("to J", new int[] {x.covers(0), x.covers(1), x.way(NONE), x.way(0), x.way(8)}, 9, 1, 9, 1, 8);
        due("ten tokens for ten firings", x.run(5, 10), 10);
        row("round", now(x), 1, 0, 0, 0, 0, 0, 0, 0, 0, 0);
        due("free, whatever the next ones take", of("J>;A>;J>;B>").kinds() & 16, 16);
        due("puts of the next one", of("mB;B>;>A").condition(NONE, 0), 1);
        due("puts of the next one, ten places", of("mB;B>J;J>A").condition(NONE, 0), 3);
    }

    private static void blanks() {
        said("Blanks (32) may stand ahead of all these, and at the end");
        noFault("  m  A2  B  ;  A  B2  >  C  A  ;  >  ", 2);
        noFault(" mA", 0);
        noFault("mA ", 0);
        noFault("m A", 0);
        noFault("mA ;m", 0);
        noFault("mA; m", 0);
        noFault("A >", 1);
        noFault("A> A", 1);
        noFault("A> ", 1);
        noFault("A>A ", 1);
        noFault(" >A", 1);
        faultAt(" \tA>", 1);
        faultAt("A" + (char) 31 + ">", 1);
        faultAt("A!>", 1);
        faultAt("A" + (char) 160 + ">", 1);
        faultAt("A" + (char) 0 + ">", 1);
    }

    private static void firstFault() {
        said("FAULT, the first sign from the left that makes one");
        faultAt("A9A0>K", 2);
        faultAt("A8A0>K", 3);
        faultAt("xA9A", 0);
        faultAt("A9B9B>A9A", 4);
        faultAt(">A9A;" + TEN, 3);
        faultAt(TEN + ";>;K", 20);
        faultAt(TEN + ";K>", 20);
        faultAt("mA" + "A9".repeat(11) + "x", 22);
    }

    private static void signsThatCannotStand() {
        said("one that can't stand there (the length, if it ends too early)");
        faultAt("A", 1);
        faultAt("A9", 2);
        faultAt("A ", 2);
        faultAt("mA; ", 4);
        faultAt("mA;B", 4);
        faultAt("   ", 3);
        faultAt("A;", 1);
        faultAt("A m", 2);
        faultAt("mm", 1);
        faultAt("mA>", 2);
        faultAt("A>>", 2);
        faultAt("A>m", 2);
        faultAt("A>B;>C>", 6);
        faultAt("A" + (char) 255 + ">", 1);
        faultAt(" ".repeat(239) + "A", 240);
        faultAt(" ".repeat(240), 240);
    }

    private static void eleventhTransition() {
        said("the > of an 11th TRANSITION");
        noFault(TEN + ";mA", 10);
        faultAt(TEN + ";>", 20);
        faultAt(TEN + ";A2 B >A", 25);
        faultAt(TEN + ";A9A>", 22);
        faultAt(TEN + ";A", 21);
        faultAt(TEN + ";", 20);
        noFault("m;" + TEN + ";m;mA", 10);
    }

    private static void moreThanNine() {
        said("the letter by which a PLACE has more than 9 together on one side of one TRANSITION");
        noFault("A9>A9;A9>A9", 2);
        noFault("A4B9A5>", 1);
        noFault("AAAAAAAAA>", 1);
        faultAt("AAAAAAAAAA>", 9);
        faultAt("A9A>", 2);
        faultAt("A9A1>", 2);
        faultAt("A4 B9 A6>", 6);
        faultAt("A9>A9 A", 6);
        faultAt(">J9J", 3);
        faultAt("A>;A9A>", 5);
        faultAt("A9A", 2);
        faultAt("A2A9>", 2);
    }

    private static void moreThan99() {
        said("more than 99 in the FIRST MARKING");
        String m99 = "m" + "A9".repeat(11);
        row("99", now(of(m99)), 99);
        faultAt(m99 + "A", 23);
        faultAt(m99 + "A9", 23);
        faultAt(m99 + ";m B A", 28);
        faultAt("m" + "A9".repeat(10) + "A8A2", 23);
        row("99 of two", now(of(m99 + "B9".repeat(11))), 99, 99);
        noFault(m99 + ";A9>A9", 1);
    }

    private static void noPlaceTold() {
        said("the length, if no PLACE is told");
        faultAt(">", 1);
        faultAt("m", 1);
        faultAt("m; > ;m  ", 9);
        faultAt(TEN, 19);
        noFault("m; > ;mA", 1);
    }

    private static void markingOf99() {
        said("A MARKING: 0 .. 99 TOKENS in each PLACE");
        PlaceNets x = with("A>B", 99, 0);
        row("99 and 0", now(x), 99, 0);
        due("100", x.put(0, 100), -1);
        due("-1", x.put(1, -1), -1);
        row("stays", now(x), 99, 0);
    }

    private static void justEnough() {
        said("A TRANSITION CAN fire, if no PLACE has less than it TAKES");
        due("just as many", with("A3B2>", 3, 2).can(), 1);
        due("one less of A", with("A3B2>", 2, 2).can(), 0);
        due("one less of B", with("A3B2>", 3, 1).can(), 0);
        due("more", with("A3B2>", 4, 3).can(), 1);
        due("takes nothing", of("mB;>A").can(), 1);
        PlaceNets x = with("A3B2>", 3, 2);
        due("none can then", x.fire(0), 0);
        row("all are taken", now(x), 0, 0);
    }

    private static void beyond99() {
        said("FIRED each has less by that, then more by what is PUT (beyond 99 it can't)");
        due("to 99", with("A>B", 1, 98).can(), 1);
        due("to 100", with("A>B", 1, 99).can(), 0);
        due("to 100, fired", with("A>B", 1, 99).fire(0), -3);
        due("9 less, 9 more", with("A9>A9", 99).can(), 1);
        due("8 less, 9 more", with("A8>A9", 99).can(), 0);
        due("8 less, 9 more to 99", with("A8>A9", 98).can(), 1);
        due("the last place", with("A>J", 1, 0, 0, 0, 0, 0, 0, 0, 0, 99).can(), 0);
        PlaceNets x = with("A>B", 2, 98);
        due("fired to 99", x.fire(0), 0);
        row("marking", now(x), 1, 99);
        PlaceNets y = with(">A", 98);
        due("a run comes to 99", y.run(0, 200), 1);
        row("marking", now(y), 99);
    }

    private static void noNetAtFirst() {
        said("At first there is no NET");
        PlaceNets x = new PlaceNets();
        write(x, RING);
        due("a text is no net", x.can(), NONE);
        due("nor has it places", x.count(0), 0);
        due("a fault makes none", told(x, "A").can(), NONE);
        due("nor places", x.count(0), 0);
        due("nor tokens", told(x, "mA3;").count(2), 0);
    }

    // ---- term 2: covered

    private static void coveredWithoutBound() {
        said("here TOKENS have no bound");
        PlaceNets x = with("A>CB9;C>DB9", 1, 99, 0, 0);
        row("above 99", node(x, 1), 0, 108, 1, 0);
        row("still more", node(x, 2), 0, 117, 0, 1);
        due("bound", x.bound(1), 117);
        x.goal(1, 99);
        due("all cover 99", x.covers(1), 3);
        due("though none can fire", x.can(), 0);
        due("and the marking is dead", x.dead(0), 1);
        due("the node is not", x.node(0, 12), 0);
        row("99 grows", node(with(">A", 99), 1), MANY);
    }

    private static void manyStaysMany() {
        said("MANY less or more a number: MANY; it is more than any number");
        PlaceNets x = of("mA;A>AB;B9>C;C9>B");
        row("B has many", node(x, 1), 1, MANY, 0);
        row("less 9", node(x, 3), 1, MANY, MANY);
        due("and once more, old", x.node(2, 12), 2);
        for (int i = 4; i < x.node(NONE, 0); i++) {
            row("many of both", node(x, i), 1, MANY, MANY);
        }
        x.goal(1, 99);
        due("more than 99", x.covers(0), 1);
        due("the most", x.bound(1), MANY);
        due("a number beside it", x.bound(0), 1);
    }

    private static void nodeZero() {
        said("NODE 0: the MARKING");
        PlaceNets x = of("mA2;A>B");
        x.fire(0);
        row("as it is", node(x, 0), 1, 1);
        due("comes of none", x.node(0, 10), NONE);
        due("by none", x.node(0, 11), NONE);
        x.undo();
        row("as it was", node(x, 0), 2, 0);
        x.put(0, 0);
        row("empty", node(x, 0), 0, 0);
        due("alone", x.node(NONE, 0), 1);
        due("dead", x.node(0, 12), 1);
    }

    private static void noEnds() {
        said("from one that is no END, by each TRANSITION that CAN fire there, by numbers");
        PlaceNets x = of("mAB;A>A;B>B;C>C");
        due("old ones end", x.node(NONE, 0), 3);
        due("by 0", x.node(1, 11), 0);
        due("by 1", x.node(2, 11), 1);
        due("old", x.node(1, 12), 2);
        due("nothing can fire", of("mA;B>").node(NONE, 0), 1);
    }

    private static void growing() {
        said("has that one no more in any PLACE than the new one (as it is by then), and less in some");
        row("the same does not grow", node(of(RING), 2), 1, 0);
        row("one less, one more", node(of("mA2;A>B2"), 1), 1, 2);
        row("one more", node(of("mA2;A>AB"), 1), 2, MANY);
        row("one less alone", node(of("mA2;A>"), 1), 1);
        // against (1, 2, 0) the node (1, 1, 1) would not grow; against (1, 0, 1), ahead of that, it comes to have many B
        PlaceNets x = of("mAB2;AB2>AC;A>AB");
        row("as it is by then", node(x, 3), 1, MANY, MANY);
        row("the node it comes of", node(x, 1), 1, 0, 1);
    }

    private static void backToNodeZero() {
        said("from the NODE it comes of back to NODE 0 one by one");
        PlaceNets x = of("mA;A>B;B>C;C>AD");
        row("against node 0 alone", node(x, 3), 1, 0, 0, MANY);
        // node 2 and node 1 come of node 0; what is in node 1 is no matter for what comes of node 2
        PlaceNets y = of("mA;A>B;A>C;C>BD");
        row("not against another branch", node(y, 3), 0, 1, 0, 1);
    }

    private static void oldAheadOfDead() {
        said("a NODE of a lesser number has the same in all PLACES (asked ahead of DEAD)");
        PlaceNets x = of("mA;A>;A>;A>B");
        due("dead", x.node(1, 12), 1);
        due("the same is old", x.node(2, 12), 2);
        due("another is dead", x.node(3, 12), 1);
        due("node 0 is never old", x.node(0, 12), 0);
        due("no more", x.node(NONE, 0), 4);
        PlaceNets late = of("mA;A>B;A>C;C>D;D>B;B>E");
        due("the same of a greater number is none", late.node(1, 12), 0);
        due("the later one is old", late.node(5, 12), 2);
    }

    private static void deadNodes() {
        said("1 DEAD: nothing CAN fire");
        due("one token too few", of("mA;A2>").node(0, 12), 1);
        due("just enough", of("mA2;A2>").node(0, 12), 0);
        due("none left", of("mA2;A2>").node(1, 12), 1);
        due("no transitions", of("mA").node(0, 12), 1);
        due("one that takes nothing", of("mA;>").node(0, 12), 0);
        due("99 is no bound here", with("A>B", 1, 99).node(0, 12), 0);
    }

    private static void twoHundredNodes() {
        said("200 NODES at most: a 201st: all that is told of these is -2");
        PlaceNets x = with("A>B;>", 99, 0);
        due("200", x.node(NONE, 0), 200);
        due("the last", x.node(199, 12), 2);
        due("no 201st", x.node(200, 12), NONE);
        due("bound", x.bound(1), 99);
        due("covers", x.covers(1), 200);
        PlaceNets ten = with("A>J;>", 99);
        row("200 of ten places", new int[] {ten.node(NONE, 0), ten.node(199, 12), ten.bound(9), ten.covers(1)},
            200, 2, 99, 200);
        PlaceNets y = with(WIDE, 66, 0);
        due("201", y.node(NONE, 0), -2);
        due("node 0", y.node(0, 0), -2);
        due("its place B", y.node(0, 1), -2);
        for (int what = 10; what < 13; what++) {
            due("what " + what, y.node(0, what), -2);
            due("what " + what, y.node(201, what), -2);
        }
        due("bound", y.bound(0), -2);
        due("bound", y.bound(1), -2);
        due("covers", y.covers(0), -2);
        due("covers", y.covers(1), -2);
        y.put(0, 65);
        due("198", y.node(NONE, 0), 198);
        due("covers", y.covers(1), 198);
    }

    // ---- term 2: all markings

    private static void markingsTo99() {
        said("MARKINGS to which one can come from the one as it is (99 at most in a PLACE, as above)");
        PlaceNets x = with(">A", 97);
        due("97, 98, 99", x.reached(NONE, 0), 3);
        due("99", x.reached(2, 0), 99);
        due("0 to 99 beside another", of("mC;>A").reached(NONE, 0), 100);
        due("none can there", x.reached(2, 10), 0);
        PlaceNets y = with("A>B", 1, 99);
        due("itself alone", y.reached(NONE, 0), 1);
        row("as it is", reached(y, 0), 1, 99);
    }

    private static void metInOrder() {
        said("numbered from 0 on as they are met: from each by numbers, by each TRANSITION that CAN fire, "
            + "by numbers");
        PlaceNets x = of("mA;A>C;A>B;C>D;B>E;E>A");
        int[][] want = {{1, 0, 0, 0, 0}, {0, 0, 1, 0, 0}, {0, 1, 0, 0, 0}, {0, 0, 0, 1, 0}, {0, 0, 0, 0, 1}};
        due("how many", x.reached(NONE, 0), 5);
        for (int i = 0; i < 5; i++) {
            row("marking " + i, reached(x, i), want[i]);
        }
    }

    private static void threeHundredMarkings() {
        said("300 at most: a 301st: all that is told of these is -2");
        PlaceNets x = with(GRID, 99, 0, 2, 0);
        due("300", x.reached(NONE, 0), 300);
        row("the last", reached(x, 299), 0, 99, 0, 2);
        due("its firings", x.reached(299, 11), 101);
        due("no 301st", x.reached(300, 11), NONE);
        due("dead", x.dead(0), 1);
        due("the least dead", x.dead(1), 299);
        due("to a dead one", x.dead(3), 300);
        due("alive", x.alive(0), 1);
        x.goal(1, 99);
        x.goal(3, 2);
        due("way", x.way(NONE), 101);
        due("the last of the way", x.way(100), 1);
        due("beyond the way", x.way(101), NONE);
        PlaceNets y = with(GRID, 42, 0, 6, 0);
        due("301", y.reached(NONE, 0), -2);
        for (int what : new int[] {0, 1, 2, 3, 10, 11}) {
            due("marking 0, what " + what, y.reached(0, what), -2);
        }
        for (int what = 0; what < 4; what++) {
            due("dead " + what, y.dead(what), -2);
        }
        due("alive", y.alive(0), -2);
        due("alive", y.alive(1), -2);
        due("way", y.way(NONE), -2);
        y.goal(0, 42);
        y.goal(2, 6);
        due("a way of none", y.way(NONE), -2);
        due("a way's first", y.way(0), -2);
        y.put(2, 5);
        due("258", y.reached(NONE, 0), 258);
    }

    private static void aliveByDegrees() {
        said("A TRANSITION is 2 ALIVE, if from each of them one can come to one at which it CAN fire; "
            + "else 1, if at some of them it CAN; else 0");
        PlaceNets x = of("mA;A>B;B>B;C>;B>AC");
        due("from each", x.alive(1), 2);
        due("C grows to 99", x.alive(3), 2);
        due("in turn", x.alive(0), 2);
        PlaceNets y = of("mA2;A>B;C>B;B>B");
        due("not from the last", y.alive(0), 1);
        due("never", y.alive(1), 0);
        due("from each in the end", y.alive(2), 2);
        due("stopped at 99", of(">A").alive(0), 1);
        due("nothing can, of one marking", of("mA;B>").alive(0), 0);
        due("always", of("mA;>").alive(0), 2);
        due("once alone", of("mA;A>").alive(0), 1);
        PlaceNets ten = of("mA;A>B;B>A;C>;C>;C>;C>;C>;C>;C>;C>");
        row("the tenth never", new int[] {ten.alive(0), ten.alive(8), ten.alive(9), ten.dead(2)}, 2, 0, 0, 2);
        PlaceNets last = of("mA;C>;C>;C>;C>;C>;C>;C>;C>;A>B;A>A");
        row("the tenth at first alone", new int[] {last.alive(8), last.alive(9), last.dead(2), last.dead(3)}, 1, 1, 1, 2);
    }

    /** What was told of one marking must not be told of the next, whatever came between. */
    private static void fromTheMarkingAsItIs() {
        said("from the MARKING as it is");
        PlaceNets x = of("mA2;A>B2");
        x.goal(1, 2);
        row("of two", new int[] {x.node(NONE, 0), x.covers(0), x.bound(1), x.reached(NONE, 0), x.event(NONE, 0)},
            3, 1, 4, 3, 2);
        x.put(0, 0);
        row("of none", new int[] {x.node(NONE, 0), x.covers(0), x.bound(1), x.reached(NONE, 0), x.event(NONE, 0)},
            1, -3, 0, 1, 0);
        x.undo();
        x.put(0, 1);
        row("of one", new int[] {x.node(NONE, 0), x.covers(0), x.bound(1), x.reached(NONE, 0), x.event(NONE, 0)},
            2, 1, 2, 2, 1);
        x.undo();
        row("of two again", new int[] {x.node(NONE, 0), x.covers(1), x.way(NONE), x.dead(0), x.condition(NONE, 0)},
            3, 2, -3, 1, 6);
        tell(x, "mB;A>B2");
        row("of another net", new int[] {x.node(NONE, 0), x.reached(NONE, 0), x.event(NONE, 0), x.condition(0, 0)},
            1, 1, 0, 1);
        PlaceNets far = with(WIDE, 66, 0);
        due("201 nodes", far.bound(0), -2);
        far.run(0, 200);
        far.put(0, 1);
        far.put(1, 0);
        due("no more so many", far.bound(0), 1);
    }

    // ---- term 3: flows, siphons, traps

    private static void flowsNotAllZero() {
        said("whole numbers 0 or more for each PLACE, not all 0");
        due("none", of(">A").flow(0, NONE, 0), 0);
        due("none would be with a number below 0", of("AB>").flow(0, NONE, 0), 0);
        due("no such", of(">A").flow(0, 0, 0), NONE);
        row("a number 0 in it", flow(of(">A;B>C"), 0, 0), 0, 1, 1);
        due("no rounds", of("A>B").flow(1, NONE, 0), 0);
        row("a round of nothing", flow(of("A>B;>"), 1, 0), 0, 1);
        due("no transitions, no rounds", of("mA").flow(1, NONE, 0), 0);
        due("no transitions, all places", of("mAJ").flow(0, NONE, 0), 10);
        row("the last of them", flow(of("mAJ"), 0, 9), 0, 0, 0, 0, 0, 0, 0, 0, 0, 1);
    }

    private static void leastFlows() {
        said("there is no FLOW with fewer numbers that are not 0, all of these among its own");
        PlaceNets x = of("AB>CD;CD>AB");
        due("four of two places", x.flow(0, NONE, 0), 4);
        row("the first", flow(x, 0, 0), 1, 0, 1, 0);
        row("the last", flow(x, 0, 3), 0, 1, 0, 1);
        due("one round", x.flow(1, NONE, 0), 1);
        due("two rounds, none of all", of("A>B;B>A;B>A").flow(1, NONE, 0), 2);
    }

    private static void leastTerms() {
        said("in least terms (no number above 1 by which all can be parted)");
        row("4 to 2", flow(of("A2>B4"), 0, 0), 2, 1);
        row("6 to 9", flow(of("A6>B9"), 0, 0), 3, 2);
        row("rounds of 6 to 9", flow(of(">A6;A9>"), 1, 0), 3, 2);
        row("9 to 9", flow(of("A9>B9;B6>C6"), 0, 0), 1, 1, 1);
    }

    private static void flowsAsBits() {
        said("They are numbered by those that are not 0, as bits, rising");
        PlaceNets x = of("AJ>B;I>I");
        row("AB", flow(x, 0, 0), 1, 1, 0, 0, 0, 0, 0, 0, 0, 0);
        row("C", flow(x, 0, 1), 0, 0, 1, 0, 0, 0, 0, 0, 0, 0);
        row("I", flow(x, 0, 7), 0, 0, 0, 0, 0, 0, 0, 0, 1, 0);
        row("BJ", flow(x, 0, 8), 0, 1, 0, 0, 0, 0, 0, 0, 0, 1);
        due("nine", x.flow(0, NONE, 0), 9);
        tell(x, "mA");
        row("of the next net", flow(x, 0, 0), 1);
        PlaceNets d = of("mD;B>C");
        row("A", flow(d, 0, 0), 1, 0, 0, 0);
        row("BC between A and D", flow(d, 0, 1), 0, 1, 1, 0);
        row("D", flow(d, 0, 2), 0, 0, 0, 1);
        PlaceNets e = of("AC>DE;A2B>E");
        row("CD", flow(e, 0, 0), 0, 0, 1, 1, 0);
        row("ACE", flow(e, 0, 1), 1, 0, 1, 0, 2);
        row("BCE", flow(e, 0, 2), 0, 1, 1, 0, 1);
        tell(e, "mABC");
        row("of the next net", flow(e, 0, 0), 1, 0, 0);
        row("of the next net", flow(e, 0, 2), 0, 0, 1);
        PlaceNets y = of("A>B;>;B>A;B>A");
        row("rounds: 1", flow(y, 1, 0), 0, 1, 0, 0);
        row("rounds: 0 and 2", flow(y, 1, 1), 1, 0, 1, 0);
        row("rounds: 0 and 3", flow(y, 1, 2), 1, 0, 0, 1);
    }

    /** The same net for places, and turned for transitions. */
    private static void work(String what, String text, int want) {
        due(what, of(text).flow(0, NONE, 0), want);
        due(what + ", of transitions", of(turned(text)).flow(1, NONE, 0), want);
    }

    private static void rowsThatStayAndGo() {
        said("each row that it does not change stays, and of each pair of one that it makes more and one "
            + "that it makes less comes the sum");
        work("no pair: none made less", ">AB", 0);
        work("no pair: none made more", "AB>", 0);
        work("no pair, one stays", ">A;mB", 1);
        work("one pair", "A>B", 1);
        work("two pairs", "A>BC", 2);
        due("none is changed", of("A>A;B2>B2;>").flow(0, NONE, 0), 2);
        due("none is changed, of transitions", of("A>A;B2>B2;>").flow(1, NONE, 0), 3);
        said("then rows go of which another one has fewer numbers that are not 0, all of these among its "
            + "own (of rows with the same ones one alone stays)");
        work("AD and BC stay, ABCD goes", "AB>CD;AC>BD", 2);
        row("BC", flow(of("AB>CD;AC>BD"), 0, 0), 0, 1, 1, 0);
        row("AD", flow(of("AB>CD;AC>BD"), 0, 1), 1, 0, 0, 1);
        work("the same twice", "AB>CD;AB>CD", 4);
    }

    private static void threeHundredRows() {
        said("those that stay and those that come are more than 300 together (ahead of those that go)");
        work("300 that come", "AC2IJ>BD2EFGH;ADGH>BCEJ;ADEGJ>F2I;B2C>DEH2IJ", 32);
        work("300 with some that stay", "B2DJ>CF2GHI;AE2GI>DFH;ABC2H>DEFGIJ;ABDE>CFGIJ;ADHI2>FGJ", 15);
        work("301", "ABDGHIJ>CF2;BEFGJ>A2CDHI;AE2FH>BC2DGI;DFJ2>ABCGH2I", -2);
        work("more than 301", "B2C2D2FI2J>AEG;BCDF>H2IJ;CEIJ>D2G2H", -2);
        PlaceNets x = of("ABDGHIJ>CF2;BEFGJ>A2CDHI;AE2FH>BC2DGI;DFJ2>ABCGH2I");
        due("too far", x.flow(0, NONE, 0), -2);
        tell(x, "A>B");
        row("the next net does not go so far", new int[] {x.flow(0, NONE, 0), x.flow(0, 0, 1), x.kept(0)}, 1, 1, 0);
    }

    private static void greatNumbers() {
        said("a number of one that comes, or what a TRANSITION changes of it, is above 1,000,000,000 without sign");
        work("a change of 1000000000", NINES + ";>A2B5C2E6G7HJ", 0);
        work("a change of 1000000001", NINES + ";>A2B5C2E6G7HJ2", -2);
        work("a change of -1000000000", NINES + ";A2B5C2E6G7HJ>", 0);
        work("a change of -1000000001", NINES + ";A2B5C2E6G7HJ2>", -2);
        // D .. J are 900000, 90000, .., 9, 1; A, B, C are 9, 8, 128: C comes to 128 times what the last one changes
        String tens = "I>J9;H>I9J9;G>H9I9J9;F>G9H9I9J9;E>F9G9H9I9J9;D>E9F9G9H9I9J9;A8>B9;C>A8B7;A>BD8E6F8H5I5J5";
        work("a number of 1000000000", tens, 1);
        due("that number", of(tens).flow(0, 0, 2), 1000000000);
        // E .. J are 90000, .., 9, 1; D, B, C, A are 9, 8, 153, 1463; 1463 times 683527 is 1000000001
        String fives = "I>J9;H>I9J9;G>H9I9J9;F>G9H9I9J9;E>F9G9H9I9J9;";
        work("a number of 1000000001, of A", fives + "D8>B9;C>D9B9;A>C9D6B4;D>E7F5G9H4I7J4", -2);
        work("a number of 1000000001, of D", fives + "A8>B9;C>A9B9;D>C9A6B4;A>E7F5G9H4I7J4", -2);
        work("a number of 999998538 parted by 3", fives + "D8>B9;C>D9B9;A>C9D6B4;D>E7F5G9H4I7J3", 1);
        work("a number of one that comes and goes",
            "D2F7>E7G7J6;E2H5>I7;B8C7E9>D9I7;DI2>E6J9;C4D>H6I9;G4I9>B2", -2);
    }

    private static void siphonsAndTraps() {
        said("A SIPHON: a set of PLACES (not empty)");
        row("no siphon", sets(of(">A"), 0));
        row("no trap", sets(of("A>"), 1));
        row("a siphon into which nothing puts", sets(of("A>"), 0), 1);
        row("a trap of which nothing takes", sets(of(">A"), 1), 1);
        row("every place, without transitions", sets(of("mC"), 0), 1, 2, 4);
        row("every place, without transitions", sets(of("mC"), 1), 1, 2, 4);
    }

    private static void closedSets() {
        said("of which each TRANSITION that PUTS into it TAKES out of it, too; a TRAP: each that TAKES "
            + "out of it PUTS into it");
        row("one that puts alone: no siphon", sets(of("A>A;>A"), 0));
        row("one that takes alone: no trap", sets(of("A>A;A>"), 1));
        row("both are", new int[] {of("A>A;A>").least(0, 0), of("A>A;>A").least(1, 0)}, 1, 1);
        row("out of another place of it", sets(of("A>B;B>A"), 0), 3);
        row("out of a place beside it", sets(of("A>B"), 0), 1);
        row("into a place beside it", sets(of("A>B"), 1), 2);
        row("whatever the numbers", sets(of("A9>A"), 1), 1);
    }

    private static void leastSets() {
        said("LEAST ones: no other one within");
        row("the siphon AB holds A", sets(of("A>A;A>B"), 0), 1);
        row("the trap AB holds B", sets(of("A>A;A>B"), 1), 2);
        row("the siphon AB holds no other", sets(of(RING), 0), 3);
        row("the trap AB holds no other", sets(of(RING), 1), 3);
        row("the traps A and B", sets(of("A>AB"), 1), 1, 2);
    }

    private static void setsAsBits() {
        said("They are numbered as bits, rising");
        row("siphons", sets(of("AB>CD;CD>AB"), 0), 5, 6, 9, 10);
        row("traps", sets(of("AB>CD;CD>AB"), 1), 5, 6, 9, 10);
        due("J", of("mJ").least(0, 9), 512);
    }

    private static void greatestTrap() {
        said("The TRAP IN a set: the greatest one within (0: none)");
        PlaceNets x = of("A>B;B>A;C>C;D>E");
        due("two together", x.trapIn(1 + 2 + 4), 7);
        due("not D", x.trapIn(1 + 2 + 8), 3);
        due("D with E", x.trapIn(8 + 16), 24);
        due("none", x.trapIn(1 + 8), 0);
        due("the empty set", x.trapIn(0), 0);
        due("all go one by one", of("A>;B>A;C>B;D>C;E>D;F>E;G>F;H>G;I>H;J>I").trapIn(1023), 0);
        due("all go the other way round", of("A>B;B>C;C>D;D>E;E>F;F>G;G>H;H>I;I>J;J>").trapIn(1023), 0);
    }

    private static void caughtOrNot() {
        said("by the MARKING as it is; without any SIPHON it is so");
        due("no siphon, no token", of(">A").caught(), 1);
        due("a siphon without a token", of("A>A").caught(), 0);
        due("one token", of("mA;A>A").caught(), 1);
        due("a siphon without a trap", of("mA;A>").caught(), 0);
        due("one of two", of("mA;A>A;B>B").caught(), 0);
        due("both", of("mAB;A>A;B>B").caught(), 1);
        PlaceNets x = of("mA;A>A");
        x.put(0, 0);
        due("not the first marking", x.caught(), 0);
        x.undo();
        due("as it is", x.caught(), 1);
    }

    // ---- term 4: unfolded

    private static void firstConditions() {
        said("at first a CONDITION for each TOKEN of the MARKING as it is, PLACE by PLACE");
        PlaceNets x = of("mB2A;A>A");
        due("places", x.condition(0, 0) * 100 + x.condition(1, 0) * 10 + x.condition(2, 0), 11);
        x.put(0, 0);
        x.put(1, 0);
        due("no token", x.condition(NONE, 0), 0);
        due("no event", x.event(NONE, 0), 0);
        due("no such", x.condition(0, 0), NONE);
        due("no such", x.event(0, 0), NONE);
        due("no such", x.atOnce(0, 1), NONE);
        due("no such", x.leaves(0, 0), NONE);
    }

    private static void unlikeConditions() {
        said("a TRANSITION with unlike CONDITIONS, as many of each PLACE as it TAKES, that can hold at once");
        due("one is not two", of("mA;A2>B").event(NONE, 0), 0);
        due("two A are no A and B", of("mA3B;AB>C").event(NONE, 0), 3);
        due("two B are no A and B", of("mAB3;AB>C").event(NONE, 0), 3);
        row("two", event(of("mA2;A2>B"), 0), 0, 1, 0, 0, 1);
        row("three of two places", event(of("mA2B;A2B>C"), 0), 0, 1, 0, 0, 1, 2);
        due("of one past", of("mA;A>B;A>C;BC>D").event(NONE, 0), 2);
        due("in the past of another", of("mA;A>BC;AB>D").event(NONE, 0), 1);
        row("rising numbers, whatever the places", event(of("mB;B>AD;AC>E;D>C"), 2), 1, 3, 0, 1, 3);
    }

    private static void behindCuts() {
        said("do not come of an EVENT that is CUT");
        PlaceNets x = of("mA;A>B;B>A");
        due("two", x.event(NONE, 0), 2);
        due("the second is cut", x.event(1, 2), 1);
        due("the first is not", x.event(0, 2), 0);
        PlaceNets y = of("mAB;A>A;AB>C");
        due("A of the cut is not taken", y.event(NONE, 0), 2);
        row("of the first A", event(y, 1), 1, 1, 0, 0, 1);
    }

    private static void sameEvents() {
        said("no two EVENTS have the same TRANSITION and CONDITIONS");
        due("unlike transitions", of("mA;A>B;A>B").event(NONE, 0), 2);
        due("unlike conditions", of("mA2;A>B").event(NONE, 0), 2);
        due("each once", of("mA3;A3>B").event(NONE, 0), 1);
    }

    private static void eventsInOrder() {
        said("with the fewest EVENTS in its PAST; of like ones that of the least TRANSITION; of these "
            + "that of the least row of CONDITIONS");
        PlaceNets x = of("mAC;B>D;C>E;A>B;DE>F");
        row("the least transition", event(x, 0), 1, 1, 0, 1);
        row("the next", event(x, 1), 2, 1, 0, 0);
        row("two in its past", event(x, 2), 0, 2, 0, 3);
        row("four in its past", event(x, 3), 3, 4, 0, 2, 4);
        PlaceNets y = of("mA3;A2>B");
        row("0 and 1", event(y, 0), 0, 1, 0, 0, 1);
        row("0 and 2", event(y, 1), 0, 1, 0, 0, 2);
        row("1 and 2", event(y, 2), 0, 1, 0, 1, 2);
    }

    private static void conditionsOfCuts() {
        said("with it a CONDITION for each TOKEN that it PUTS, PLACE by PLACE (of one that is CUT, too)");
        PlaceNets x = of("mA2B;A2B>BA2");
        due("cut", x.event(0, 2), 1);
        due("conditions", x.condition(NONE, 0), 6);
        row("their places", new int[] {x.condition(3, 0), x.condition(4, 0), x.condition(5, 0)}, 0, 0, 1);
        due("its event", x.condition(5, 1), 0);
        due("none put", of("mA;A>").condition(NONE, 0), 1);
        due("80 by cut ones", of("mA6C3D2E;A3>A3;C2>C2;D>D").condition(NONE, 0), 80);
        due("81 by cut ones", of("mA6C3D3;A3>A3;C2>C2;D>D").condition(NONE, 0), -2);
    }

    private static void cutByFewer() {
        said("is that of the first CONDITIONS, or that which the PAST of an EVENT of a lesser number with "
            + "fewer EVENTS in it leaves");
        due("the first marking", of("mA;A>A").event(0, 2), 1);
        PlaceNets x = of("mA;A>B;A>B;A>C;C>B");
        row("as many: not cut", new int[] {x.event(0, 2), x.event(1, 2)}, 0, 0);
        row("fewer: cut", event(x, 3), 3, 2, 1, 3);
        PlaceNets y = of("mA;A>B;A>C;B>D;C>D;D>E");
        row("two of two: not cut", new int[] {y.event(2, 2), y.event(3, 2)}, 0, 0);
        due("each goes on", y.event(NONE, 0), 6);
        row("and none is cut", new int[] {y.event(4, 2), y.event(5, 2)}, 0, 0);
        due("no token left is no marking of the first", of("mA;A>").event(0, 2), 0);
        row("by the first event alone", event(of("mA;A>B;A>C;C>B"), 2), 2, 2, 1, 2);
    }

    private static void takesNothing() {
        said("A TRANSITION that TAKES nothing has no EVENT");
        PlaceNets x = of("mA;>A;A>B;>");
        due("one", x.event(NONE, 0), 1);
        due("of the other", x.event(0, 0), 1);
        due("without a token", of(">A").event(NONE, 0), 0);
    }

    /** Whether all that is told of the unfolding is -2. */
    private static void tooMuchUnfolded(String what, PlaceNets x) {
        due(what + ": events", x.event(NONE, 0), -2);
        for (int k = 0; k < 5; k++) {
            due(what + ": event", x.event(0, k), -2);
        }
        due(what + ": conditions", x.condition(NONE, 0), -2);
        due(what + ": condition", x.condition(0, 0), -2);
        due(what + ": condition's event", x.condition(0, 1), -2);
        due(what + ": at once", x.atOnce(0, 1), -2);
        due(what + ": one with itself", x.atOnce(0, 0), -2);
        due(what + ": leaves", x.leaves(0, 0), -2);
    }

    private static void twelveTokens() {
        said("more than 12 TOKENS in the MARKING");
        PlaceNets x = of("mA9B3;C>");
        due("12", x.condition(NONE, 0), 12);
        due("12", x.event(NONE, 0), 0);
        x.put(2, 1);
        tooMuchUnfolded("13", x);
        x.undo();
        due("12 again", x.condition(NONE, 0), 12);
        due("12 with an event", of("mA9B3;B3>A9").event(NONE, 0), 1);
    }

    private static void threeTaken() {
        said("a TRANSITION that TAKES more than 3 in all");
        due("3 of one", of("mA;A3>").event(NONE, 0), 0);
        due("3 of three", of("mABC;ABC>").event(NONE, 0), 1);
        tooMuchUnfolded("4 of one", of("mA;A4>"));
        tooMuchUnfolded("4 of four", of("mABCD;ABCD>"));
        tooMuchUnfolded("4, which can't fire, the last", of("mA;A>;B3C>"));
        due("4 put", of("mA;A>B4").event(NONE, 0), 1);
    }

    private static void thirtyEvents() {
        said("a 31st EVENT, an 81st CONDITION");
        PlaceNets x = of("mA9AE;A>B;B>C;C>D");
        due("30", x.event(NONE, 0), 30);
        due("the last", x.event(29, 1), 3);
        due("no 31st", x.event(30, 0), NONE);
        tooMuchUnfolded("31", of("mA9AE;A>B;B>C;C>D;E>F"));
        PlaceNets y = of("mAJ7;A>B9C9D9E9F9G9H9I9");
        due("80", y.condition(NONE, 0), 80);
        due("the last", y.condition(79, 0), 8);
        due("no 81st", y.condition(80, 0), NONE);
        due("the last two at once", y.atOnce(78, 79), 1);
        due("the first and the last", y.atOnce(0, 79), 0);
        tooMuchUnfolded("81", of("mAJ8;A>B9C9D9E9F9G9H9I9"));
        due("12 cut ones", of("mA9A3;A>A").event(NONE, 0), 12);
        tooMuchUnfolded("31 one behind the other", of("mA;A>AB"));
        allPairs();
        y.put(0, 0);
        due("seven left", y.condition(NONE, 0), 7);
        due("all at once", y.atOnce(0, 6), 1);
        due("0 with itself", y.atOnce(0, 0), 0);
    }

    /** Condition 0 is an A, 1 to 7 are J, all others come of the one event, which has A. */
    private static void allPairs() {
        int unlike = 0;
        for (int a = 0; a < 80; a++) {
            PlaceNets x = of("mAJ7;A>B9C9D9E9F9G9H9I9");
            for (int b = 0; b < 80; b++) {
                boolean apart = a == b || (a == 0 && b > 7) || (b == 0 && a > 7);
                unlike += x.atOnce(a, b) == (apart ? 0 : 1) ? 0 : 1;
            }
        }
        due("pairs that are told wrong", unlike, 0);
        behindOneEvent();
    }

    /** Condition 0 is an A, 1 to 9 are B, 10 to 36 come with them; 37 to 45 are the F that come of B 1 to 9. */
    private static void behindOneEvent() {
        int unlike = 0;
        for (int a = 0; a < 46; a++) {
            PlaceNets x = of("mA;A>B9C9D9E9;B>F");
            for (int b = 0; b < 46; b++) {
                boolean apart = a == b || a == 0 || b == 0 || (a > 36 && b == a - 36) || (b > 36 && a == b - 36);
                unlike += x.atOnce(a, b) == (apart ? 0 : 1) ? 0 : 1;
            }
        }
        due("pairs behind one event that are told wrong", unlike, 0);
    }

    private static void holdAtOnce() {
        said("unlike ones, neither of which is among those that EVENTS of the other one's PAST (of the "
            + "EVENT it comes of) have");
        PlaceNets x = of("mAB;A>C2;C>D;B>E");
        due("one with itself", x.atOnce(0, 0), 0);
        due("first ones", x.atOnce(0, 1), 1);
        due("the one its event has", x.atOnce(0, 2), 0);
        due("the other way round", x.atOnce(2, 0), 0);
        due("of one event", x.atOnce(2, 3), 1);
        due("a past of two", x.atOnce(0, 5), 0);
        due("D of the first C with the second C", x.atOnce(5, 3), 1);
        due("D of the first C with the first C", x.atOnce(5, 2), 0);
        due("D with D", x.atOnce(5, 6), 1);
        due("D with B", x.atOnce(1, 6), 1);
        due("D with E", x.atOnce(4, 6), 1);
        said("no two unlike EVENTS of both PASTS together have a CONDITION in common");
        tell(x, "mA;A>B;A>C");
        due("nothing of the net before", x.atOnce(0, 1), 0);
        due("nothing of the net before", x.atOnce(1, 2), 0);
        PlaceNets y = of("mA;A>B;A>C;B>D;C>E");
        due("instead of each other", y.atOnce(1, 2), 0);
        due("one event later", y.atOnce(3, 2), 0);
        due("both later", y.atOnce(3, 4), 0);
    }

    // ---- in full

    private static void netEmptiesTheText() {
        said("net() empties THE TEXT whatever it answers; with a FAULT all else stays");
        PlaceNets x = of("mA2B;A>C;C>A2B");
        x.fire(0);
        x.goal(1, 7);
        x.put(2, 3);
        int[] before = state(x);
        for (String text : new String[] {"", "A", "mJ9;x", "A9A>", TEN + ";>", ">", "mA9;A>B;"}) {
            due("a fault of [" + text + "]", tell(x, text) <= -1000, true);
            due("no signs", x.count(3), 0);
            row("all else behind [" + text + "]", state(x), before);
        }
        due("undone as before", x.undo(), 1);
        due("undone as before", x.undo(), 0);
        row("the first marking", now(x), 2, 1, 0);
        write(x, RING);
        due("without a fault", x.net(), 2);
        due("no signs", x.count(3), 0);
        due("empty", x.net(), -1000);
    }

    private static void netsInTurn() {
        said("THE TEXT becomes the NET");
        PlaceNets x = of("mA3J3;A2J>A3J4;>B");
        due("a second", tell(x, "mB;B>C"), 1);
        due("a third", tell(x, ">;mC2"), 1);
        row("the third's marking alone", now(x), 0, 0, 2);
        row("the third's arcs alone", new int[] {x.arc(0, 0, 0), x.arc(0, 0, 1), x.arc(0, 2, 0), x.arc(0, 2, 1)}, 0, 0, 0, 0);
        due("one transition", arc(x, 1, 0, 0), THROWN);
        due("a fault", tell(x, "mA9;A9>A9;A9A"), -1012);
        due("a fourth", tell(x, ">A;mB"), 1);
        row("nothing of the fault", new int[] {x.tokens(0, 1), x.arc(0, 0, 0), x.arc(0, 0, 1), x.count(0), x.count(1)},
            0, 0, 1, 2, 1);
    }

    private static void aNewNet() {
        said("With a NET the MARKING is the FIRST one, the GOAL 0 in all, nothing can be undone");
        PlaceNets x = of("mA2;A>B");
        x.put(1, 9);
        x.goal(0, 5);
        x.goal(1, 6);
        due("the same net again", tell(x, "mA2;A>B"), 1);
        row("now", now(x), 2, 0);
        row("goal", tokens(x, 2), 0, 0);
        due("acts", x.count(4), 0);
        due("undo", x.undo(), -3);
        row("now", now(x), 2, 0);
    }

    private static void tenActs() {
        said("Acts: fire(), put(), run(), home() that were done: the latest 10 can be undone (the MARKING alone)");
        PlaceNets x = of("mA;A>AB");
        for (int n = 1; n <= 10; n++) {
            x.fire(0);
            due("acts", x.count(4), n);
        }
        x.put(0, 5);
        due("11 acts", x.count(4), 10);
        x.home();
        x.run(0, 3);
        due("13 acts", x.count(4), 10);
        x.goal(1, 50);
        row("now", now(x), 1, 3);
        due("run", x.undo(), 9);
        row("behind home", now(x), 1, 0);
        due("home", x.undo(), 8);
        row("behind put", now(x), 5, 10);
        due("put", x.undo(), 7);
        row("behind ten", now(x), 1, 10);
        for (int n = 6; n >= 0; n--) {
            due("fire", x.undo(), n);
        }
        row("the first three stay", now(x), 1, 3);
        due("none more", x.undo(), -3);
        row("still", now(x), 1, 3);
        due("the goal stays", x.tokens(1, 2), 50);
        x.fire(0);
        due("one more act", x.count(4), 1);
        due("undone", x.undo(), 0);
        row("as ahead of it", now(x), 1, 3);
    }

    // ---- refused calls

    private static void refusedChangeNothing() {
        said("REFUSED calls answer as told, and change nothing but THE TEXT");
        PlaceNets x = of("mA2B;A>C;C9>A2B");
        x.fire(0);
        x.goal(1, 7);
        write(x, "mA");
        int[] before = state(x);
        int[] answers = {x.fire(2), x.fire(-1), x.fire(1), x.put(0, 100), x.put(0, -1), x.put(3, 1), x.put(-1, 1),
            x.run(-1, 1), x.run(1000000, 1), x.run(0, 0), x.run(0, 201), x.goal(0, 100), x.goal(0, -1), x.goal(3, 1),
            x.goal(-1, 1)};
        row("answers", answers, -2, -2, -3, -1, -1, -2, -2, -1, -1, -1, -1, -1, -1, -2, -2);
        row("all stays", state(x), before);
        due("the text stays", x.count(3), 2);
        due("undo", x.undo(), 0);
        row("what was done", now(x), 2, 1, 0);
        row("a refused undo", new int[] {x.undo(), x.undo()}, -3, -3);
        row("changes nothing", now(x), 2, 1, 0);
        due("the text is still mA", x.net(), 0);
        due("one place", x.count(0), 1);
    }

    private static void refusedWithoutNet() {
        said("-2 no NET, no such PLACE, TRANSITION");
        PlaceNets x = new PlaceNets();
        row("no net", new int[] {x.fire(0), x.put(0, 0), x.run(0, 1), x.home(), x.undo(), x.goal(0, 0)},
            -2, -2, -2, -2, -2, -2);
        PlaceNets y = of("mJ;" + TEN);
        row("the last ones", new int[] {y.fire(9), y.put(9, 1), y.goal(9, 1)}, 10, 1, 0);
        row("one more", new int[] {y.fire(10), y.put(10, 1), y.goal(10, 1)}, -2, -2, -2);
        row("far", new int[] {y.fire(GREATEST), y.put(GREATEST, 1), y.goal(GREATEST, 1)}, -2, -2, -2);
        row("far below", new int[] {y.fire(LEAST), y.put(LEAST, 1), y.goal(LEAST, 1)}, -2, -2, -2);
        due("no transition", of("mA").fire(0), -2);
    }

    private static void refusedNumbers() {
        said("-1 a number that can't be");
        PlaceNets x = of(RING);
        row("tokens", new int[] {x.put(0, -1), x.put(0, 100), x.goal(0, -1), x.goal(0, 100)}, -1, -1, -1, -1);
        row("the least and the most", new int[] {x.put(0, 0), x.put(0, 99), x.goal(0, 0), x.goal(0, 99)}, 1, 0, 0, 0);
        row("runs", new int[] {x.run(-1, 1), x.run(1000000, 1), x.run(0, 0), x.run(0, 201)}, -1, -1, -1, -1);
        row("the least and the most", new int[] {x.run(0, 1), x.run(999999, 200)}, 1, 200);
    }

    private static void refusedByWhatStands() {
        said("-3 it can't be by what stands");
        PlaceNets x = of(RING);
        row("refused", new int[] {x.undo(), x.fire(1)}, -3, -3);
        row("then not", new int[] {x.fire(0), x.fire(1), x.undo(), x.undo(), x.undo()}, 1, 1, 1, 0, -3);
        due("as at first", x.can(), 1);
    }

    private static void constants() {
        said("`MANY = -9`: There are more than are told");
        row("NONE and MANY", new int[] {PlaceNets.NONE, PlaceNets.MANY}, -1, -9);
    }

    private static void refusedInOrder() {
        said("The first of these in that order");
        PlaceNets x = new PlaceNets();
        row("a number ahead of no net", new int[] {x.put(0, 100), x.run(-1, 1), x.run(0, 201), x.goal(0, -1)},
            -1, -1, -1, -1);
        PlaceNets y = of(RING);
        row("a number ahead of no place", new int[] {y.put(2, 100), y.put(-1, -1), y.goal(2, 100), y.goal(-1, -1)},
            -1, -1, -1, -1);
        due("no such ahead of can't", y.fire(2), -2);
        due("no net ahead of nothing to undo", x.undo(), -2);
    }

    private static void gettersWithoutNet() {
        said("Getters tell NONE for others, unless told otherwise");
        PlaceNets x = new PlaceNets();
        row("no net", new int[] {x.tokens(0, 0), x.can(), x.node(NONE, 0), x.node(0, 0), x.node(0, 10), x.bound(0),
            x.covers(0), x.covers(1), x.reached(NONE, 0), x.reached(0, 10), x.dead(0), x.dead(1), x.dead(2), x.dead(3),
            x.alive(0), x.way(NONE), x.way(0), x.flow(0, NONE, 0), x.flow(1, NONE, 0), x.flow(0, 0, 0), x.kept(0),
            x.least(0, NONE), x.least(1, 0), x.trapIn(0), x.kinds(), x.caught(), x.event(NONE, 0), x.event(0, 3),
            x.condition(NONE, 0), x.condition(0, 1), x.atOnce(0, 0), x.leaves(0, 0)},
            -1, -1, -1, -1, -1, -1, -1, -1, -1, -1, -1, -1, -1, -1, -1, -1, -1, -1, -1, -1, -1, -1, -1, -1, -1, -1, -1,
            -1, -1, -1, -1, -1);
        due("told otherwise", arc(x, 0, 0, 0), THROWN);
        row("and so", new int[] {x.count(0), x.count(1), x.count(2), x.count(4)}, 0, 0, 0, 0);
    }

    private static void noneAheadOfTooMany() {
        said("ahead of -2 for too many");
        PlaceNets x = with(WIDE, 66, 0);
        row("nodes", new int[] {x.node(0, 2), x.node(0, 9), x.node(0, 13), x.node(0, -1), x.node(-2, 0), x.node(NONE, 1),
            x.node(NONE, 10), x.node(LEAST, 0), x.node(0, GREATEST), x.bound(2), x.bound(-1), x.covers(2), x.covers(-1)},
            -1, -1, -1, -1, -1, -1, -1, -1, -1, -1, -1, -1, -1);
        PlaceNets y = with(GRID, 42, 0, 6, 0);
        row("markings", new int[] {y.reached(0, 4), y.reached(0, 9), y.reached(0, 12), y.reached(0, -1), y.reached(-2, 0),
            y.reached(NONE, 1), y.reached(NONE, 10), y.dead(4), y.dead(-1), y.alive(2), y.alive(-1), y.way(-2),
            y.way(LEAST)}, -1, -1, -1, -1, -1, -1, -1, -1, -1, -1, -1, -1, -1);
        PlaceNets f = of(NINES + ";>A2B5C2E6G7HJ2");
        row("flows", new int[] {f.flow(0, 0, 10), f.flow(0, 0, -1), f.flow(0, -2, 0), f.flow(2, NONE, 0),
            f.flow(-1, NONE, 0), f.flow(2, 0, 0), f.kept(-1), f.kept(LEAST)}, -1, -1, -1, -1, -1, -1, -1, -1);
        PlaceNets u = of("mA9A4;A>A");
        row("unfolded", new int[] {u.event(NONE, 1), u.event(NONE, -1), u.event(-2, 0), u.event(0, -1),
            u.condition(NONE, 1), u.condition(-2, 0), u.condition(0, 2), u.condition(0, -1), u.atOnce(-1, 0),
            u.atOnce(0, -1), u.leaves(-1, 0), u.leaves(0, 1), u.leaves(0, -1)},
            -1, -1, -1, -1, -1, -1, -1, -1, -1, -1, -1, -1, -1);
    }

    private static void anyNumberWhereTooMany() {
        said("but where that is told there may be any number i, k, a, b from 0 on (of NODES, MARKINGS, "
            + "FLOWS, EVENTS, CONDITIONS)");
        int[] numbers = {0, 1, 30, 80, 200, 201, 300, 301, 5000, GREATEST};
        PlaceNets x = with(WIDE, 66, 0);
        PlaceNets y = with(GRID, 42, 0, 6, 0);
        PlaceNets f = of(NINES + ";>A2B5C2E6G7HJ2");
        PlaceNets g = of(turned(NINES + ";>A2B5C2E6G7HJ2"));
        PlaceNets u = of("mA9A4;A>A");
        for (int n : numbers) {
            row("number " + n, new int[] {x.node(n, 0), x.node(n, 12), y.reached(n, 3), y.reached(n, 11), y.way(n),
                f.flow(0, n, 0), f.flow(0, n, 9), f.kept(n), g.flow(1, n, 0), g.flow(1, n, 9), u.event(n, 0),
                u.event(0, n), u.event(n, n), u.condition(n, 0), u.condition(n, 1), u.atOnce(n, 0), u.atOnce(0, n),
                u.atOnce(n, n), u.leaves(n, 0)},
                -2, -2, -2, -2, -2, -2, -2, -2, -2, -2, -2, -2, -2, -2, -2, -2, -2, -2, -2);
        }
    }

    // ---- the promises

    private static void newObject() {
        said("`PlaceNets()`: No NET.");
        PlaceNets x = new PlaceNets();
        row("counts", new int[] {x.count(0), x.count(1), x.count(2), x.count(3), x.count(4)}, 0, 0, 0, 0, 0);
        due("can", x.can(), NONE);
        due("an empty text", x.net(), -1000);
        PlaceNets y = of(RING);
        due("each for itself", new PlaceNets().can(), NONE);
        due("each for itself", y.can(), 1);
    }

    private static void highestByteFirst() {
        said("Four signs come behind THE TEXT, of v the highest byte first: how many it has");
        PlaceNets x = new PlaceNets();
        due("mABC", x.sign(0x6D414243), 4);
        due("behind it", x.sign(0x433B413E), 8);
        due("net", x.net(), 1);
        row("marking", now(x), 1, 1, 2);
        due("-1: four of 255", x.sign(-1), 4);
        due("0: four of 0", x.sign(0), 8);
        due("255 can't stand", x.net(), -1000);
        x.sign(0x6D41FF20);
        due("255 at 2", x.net(), -1002);
        x.sign(0x6D412080);
        due("128 at 3", x.net(), -1003);
        x.sign(0x6D410020);
        due("0 at 2", x.net(), -1002);
        x.sign(0x6D41203B);
        due("; is the lowest byte", x.net(), -1004);
    }

    private static void noneCame() {
        said("NONE, and none comes: there would be more than 240");
        for (int n = 234; n <= 240; n++) {
            PlaceNets x = new PlaceNets();
            write(x, ("mA" + " ".repeat(240)).substring(0, n));
            due("behind " + n, x.sign(0x41414141), n <= 236 ? n + 4 : NONE);
            due("signs behind " + n, x.count(3), n <= 236 ? n + 4 : n);
            x.net();
            due("tokens behind " + n, x.tokens(0, 0), n <= 236 ? 5 : 1);
        }
    }

    private static void ends() {
        said("THE TEXT has its first n signs alone: true; false: it has not so many, n below 0");
        PlaceNets x = new PlaceNets();
        due("0 of 0", x.end(0), true);
        due("1 of 0", x.end(1), false);
        due("-1 of 0", x.end(-1), false);
        write(x, "mA2B3");
        due("6 of 5", x.end(6), false);
        due("5 of 5", x.end(5), true);
        due("-1", x.end(-1), false);
        due("far below", x.end(LEAST), false);
        due("far above", x.end(GREATEST), false);
        due("all are there", x.count(3), 5);
        due("3 of 5", x.end(3), true);
        due("4 of 3", x.end(4), false);
        due("the first three", x.net(), 0);
        row("mA2", now(x), 2);
        write(x, "mAB");
        due("0 of 3", x.end(0), true);
        due("empty", x.count(3), 0);
        due("nothing is left", x.net(), -1000);
    }

    private static void nets() {
        said("THE TEXT becomes the NET: how many TRANSITIONS. -1000 and less by p: a FAULT at p");
        noFault("mA", 0);
        noFault(TEN + "A", 10);
        faultAt("", 0);
        faultAt("x", 0);
        faultAt("Ax", 1);
        faultAt("mA" + " ".repeat(237) + "x", 239);
        faultAt(" ".repeat(239) + ">", 240);
    }

    private static void arcs() {
        said("NoSuchElementException: no such ones; NONE: others");
        PlaceNets x = of("A9>J9;>;>;>;>;>;>;>;>;J>A");
        row("the ends", new int[] {arc(x, 0, 0, 0), arc(x, 0, 9, 1), arc(x, 9, 9, 0), arc(x, 9, 0, 1)}, 9, 9, 1, 1);
        row("none taken, put", new int[] {arc(x, 0, 0, 1), arc(x, 0, 9, 0), arc(x, 5, 5, 0), arc(x, 5, 5, 1)}, 0, 0, 0, 0);
        row("what", new int[] {arc(x, 0, 0, -1), arc(x, 0, 0, 2), arc(x, 0, 0, LEAST), arc(x, 0, 0, GREATEST)},
            -1, -1, -1, -1);
        row("no such", new int[] {arc(x, -1, 0, 0), arc(x, 10, 0, 0), arc(x, 0, -1, 0), arc(x, 0, 10, 0),
            arc(x, LEAST, 0, 0), arc(x, GREATEST, 0, 0), arc(x, 0, LEAST, 1), arc(x, 0, GREATEST, 1)},
            THROWN, THROWN, THROWN, THROWN, THROWN, THROWN, THROWN, THROWN);
        row("no such, whatever what is", new int[] {arc(x, 10, 0, 2), arc(x, 0, 10, -1)}, THROWN, THROWN);
        PlaceNets y = of("A>B");
        row("beyond a lesser net", new int[] {arc(y, 1, 0, 0), arc(y, 0, 2, 0)}, THROWN, THROWN);
        due("no transitions", arc(of("mA"), 0, 0, 0), THROWN);
        due("no net", arc(new PlaceNets(), 0, 0, 0), THROWN);
    }

    private static void tokensOfOthers() {
        said("TOKENS of a PLACE now (what 0), in the FIRST MARKING (1), in the GOAL (2). NONE: others");
        PlaceNets x = of("mA3J2;A>J");
        x.fire(0);
        x.goal(9, 99);
        row("A", new int[] {x.tokens(0, 0), x.tokens(0, 1), x.tokens(0, 2)}, 2, 3, 0);
        row("J", new int[] {x.tokens(9, 0), x.tokens(9, 1), x.tokens(9, 2)}, 3, 2, 99);
        row("others", new int[] {x.tokens(0, -1), x.tokens(0, 3), x.tokens(-1, 0), x.tokens(10, 0), x.tokens(LEAST, 1),
            x.tokens(GREATEST, 2), x.tokens(0, LEAST), x.tokens(0, GREATEST), x.tokens(10, 3)},
            -1, -1, -1, -1, -1, -1, -1, -1, -1);
        row("beyond a lesser net", new int[] {of("mA").tokens(1, 0), of("mA").tokens(1, 1), of("mA").tokens(1, 2)},
            -1, -1, -1);
    }

    private static void canBits() {
        said("TRANSITIONS that CAN fire now, as bits. NONE: no NET");
        due("none", of("A>").can(), 0);
        due("no transitions", of("mA").can(), 0);
        due("the 10th alone", of("mB;A>;A>;A>;A>;A>;A>;A>;A>;A>;B>").can(), 512);
        due("all ten", of("mA;" + TEN).can(), 1023);
        due("no net", new PlaceNets().can(), NONE);
    }

    private static void fires() {
        said("A TRANSITION fires: how many CAN then. -2; -3");
        PlaceNets x = of("mA;A>B;B>C;B>");
        row("then", new int[] {x.fire(0), x.fire(1)}, 2, 0);
        row("refused", new int[] {x.fire(0), x.fire(2), x.fire(3), x.fire(-1), x.fire(LEAST), x.fire(GREATEST)},
            -3, -3, -2, -2, -2, -2);
        due("two acts", x.count(4), 2);
        row("marking", now(x), 0, 0, 1);
    }

    private static void puts() {
        said("A PLACE has n TOKENS (0 .. 99): how many it had. -1; -2");
        PlaceNets x = of("mJ");
        row("had", new int[] {x.put(9, 0), x.put(9, 99), x.put(9, 99), x.put(0, 1)}, 1, 0, 99, 0);
        row("n", new int[] {x.put(9, -1), x.put(9, 100), x.put(9, LEAST), x.put(9, GREATEST)}, -1, -1, -1, -1);
        row("place", new int[] {x.put(-1, 0), x.put(10, 99), x.put(10, 100)}, -2, -2, -1);
        due("four acts", x.count(4), 4);
        due("tokens", x.count(2), 100);
    }

    private static void runsToTheirEnd() {
        said("n times (1 .. 200) a DRAW of how many CAN: that one of them, by numbers, fires; it ends "
            + "where none CAN: how often one fired");
        due("once", of(RING).run(0, 1), 1);
        due("200 times", of(RING).run(0, 200), 200);
        PlaceNets x = of("mA3;A>");
        row("n", new int[] {x.run(0, 0), x.run(0, 201), x.run(0, -1), x.run(0, LEAST), x.run(0, GREATEST)},
            -1, -1, -1, -1, -1);
        due("no act yet", x.count(4), 0);
        due("it ends", x.run(0, 200), 3);
        due("none fires", x.run(0, 200), 0);
        due("both were done", x.count(4), 2);
        due("no transitions", of("mA").run(0, 1), 0);
        due("just so many", of("mA3;A>").run(0, 3), 3);
        due("up to 99", of(">A").run(7, 200), 99);
    }

    private static void draws() {
        said("s (at first the seed, 0 .. 999,999) becomes (1,103 s and 12,345) modulo 1,000,003; it is s modulo m");
        PlaceNets x = of(">A;>B;>C;>D;>E;>F;>G");
        row("seeds", new int[] {x.run(-1, 1), x.run(1000000, 1), x.run(LEAST, 1), x.run(GREATEST, 1)}, -1, -1, -1, -1);
        for (int seed : new int[] {0, 1, 905, 906, 500000, 999998, 999999}) {
            x.home();
            due("seed " + seed, x.run(seed, 150), 150);
            int[] want = new int[7];
            long s = seed;
            for (int n = 0; n < 150; n++) {
                s = (1103 * s + 12345) % 1000003;
                want[(int) (s % 7)]++;
            }
            row("drawn of " + seed, now(x), want);
        }
        // a draw of one changes s, too: 2 becomes 14551, that 62110 (an even number)
        PlaceNets y = of("mA;A>B;B>C;B>D");
        y.run(2, 2);
        row("behind a draw of one", now(y), 0, 0, 1, 0);
    }

    private static void homes() {
        said("The MARKING is the FIRST one: how many TOKENS it has. -2");
        due("none", of("A>").home(), 0);
        PlaceNets full = of("m" + "A9".repeat(11) + "B9".repeat(11));
        full.put(0, 0);
        due("198", full.home(), 198);
        row("marking", now(full), 99, 99);
        due("home again", full.home(), 198);
        due("acts", full.count(4), 3);
        due("no net", new PlaceNets().home(), -2);
    }

    private static void undos() {
        said("The latest act is undone: how many can be yet. -2: no NET; -3: none");
        PlaceNets x = of("mA;A>B");
        row("none", new int[] {new PlaceNets().undo(), x.undo()}, -2, -3);
        x.fire(0);
        row("one", new int[] {x.undo(), x.undo()}, 0, -3);
        row("marking", now(x), 1, 0);
    }

    private static void goals() {
        said("The GOAL has n TOKENS (0 .. 99) in a PLACE: how many it had (no act). -1; -2");
        PlaceNets x = of("mJ");
        row("had", new int[] {x.goal(9, 99), x.goal(9, 0), x.goal(9, 5), x.goal(0, 1)}, 0, 99, 0, 0);
        row("n", new int[] {x.goal(9, -1), x.goal(9, 100), x.goal(9, LEAST), x.goal(9, GREATEST)}, -1, -1, -1, -1);
        row("place", new int[] {x.goal(-1, 0), x.goal(10, 99), x.goal(10, 100)}, -2, -2, -1);
        row("goal", tokens(x, 2), 1, 0, 0, 0, 0, 0, 0, 0, 0, 5);
        due("no act", x.count(4), 0);
        due("the marking stays", x.count(2), 1);
    }

    private static void nodesTold() {
        said("NODES: how many (i NONE, what 0); of the i-th what is in a PLACE (what 0 and on; MANY), the "
            + "NODE it comes of (10; NONE of 0), by which TRANSITION (11; NONE), whether an END (12: 0 no, "
            + "1 DEAD, 2 OLD)");
        PlaceNets x = of(RING);
        due("how many", x.node(NONE, 0), 3);
        row("node 2", new int[] {x.node(2, 0), x.node(2, 1), x.node(2, 10), x.node(2, 11), x.node(2, 12)}, 1, 0, 1, 1, 2);
        row("node 0", new int[] {x.node(0, 0), x.node(0, 1), x.node(0, 10), x.node(0, 11), x.node(0, 12)}, 1, 0, -1, -1, 0);
        row("others", new int[] {x.node(3, 0), x.node(3, 12), x.node(GREATEST, 10), x.node(-2, 0), x.node(LEAST, 0),
            x.node(0, 2), x.node(0, 9), x.node(0, 13), x.node(0, -1), x.node(0, GREATEST), x.node(0, LEAST),
            x.node(NONE, 1), x.node(NONE, -1), x.node(NONE, 10), x.node(NONE, 12)},
            -1, -1, -1, -1, -1, -1, -1, -1, -1, -1, -1, -1, -1, -1, -1);
        PlaceNets ten = of("mJ");
        row("the tenth place", new int[] {ten.node(0, 9), ten.node(0, 10), ten.node(NONE, 9)}, 1, -1, -1);
    }

    private static void boundsTold() {
        said("The most TOKENS that a PLACE has in any NODE; MANY");
        PlaceNets x = of("mA2;A>B3");
        row("the most", new int[] {x.bound(0), x.bound(1)}, 2, 6);
        row("others", new int[] {x.bound(-1), x.bound(2), x.bound(LEAST), x.bound(GREATEST)}, -1, -1, -1, -1);
        due("none at all", of("mA;B>").bound(1), 0);
        due("99", with("A>", 99).bound(0), 99);
        due("above 99", with("A>B", 1, 99).bound(1), 100);
        due("many", of(">A").bound(0), MANY);
        due("the tenth place", of("mJ").bound(9), 1);
    }

    private static void coversTold() {
        said("The least NODE that has as many TOKENS as the GOAL, or more, in each PLACE (what 0; -3: "
            + "none), how many such (1)");
        PlaceNets x = of("mA2;A>B2");
        row("a goal of none", new int[] {x.covers(0), x.covers(1)}, 0, 3);
        x.goal(1, 2);
        row("just as many", new int[] {x.covers(0), x.covers(1)}, 1, 2);
        x.goal(0, 1);
        row("in each place", new int[] {x.covers(0), x.covers(1)}, 1, 1);
        x.goal(1, 3);
        row("none", new int[] {x.covers(0), x.covers(1)}, -3, 0);
        x.goal(0, 0);
        row("the last", new int[] {x.covers(0), x.covers(1)}, 2, 1);
        x.goal(1, 5);
        row("one too many", new int[] {x.covers(0), x.covers(1)}, -3, 0);
        row("others", new int[] {x.covers(-1), x.covers(2), x.covers(LEAST), x.covers(GREATEST)}, -1, -1, -1, -1);
    }

    private static void reachedTold() {
        said("MARKINGS: how many (i NONE, what 0); of the i-th TOKENS in a PLACE (what 0 and on), "
            + "TRANSITIONS that CAN, as bits (10), the fewest firings by which one comes to it (11)");
        PlaceNets x = of("mA;A>B;B>C;A>C");
        due("how many", x.reached(NONE, 0), 3);
        row("marking 0", new int[] {x.reached(0, 0), x.reached(0, 2), x.reached(0, 10), x.reached(0, 11)}, 1, 0, 5, 0);
        row("marking 2", new int[] {x.reached(2, 0), x.reached(2, 2), x.reached(2, 10), x.reached(2, 11)}, 0, 1, 0, 1);
        row("others", new int[] {x.reached(3, 0), x.reached(3, 11), x.reached(GREATEST, 10), x.reached(-2, 0),
            x.reached(LEAST, 0), x.reached(0, 3), x.reached(0, 9), x.reached(0, 12), x.reached(0, -1),
            x.reached(0, GREATEST), x.reached(0, LEAST), x.reached(NONE, 1), x.reached(NONE, -1), x.reached(NONE, 10),
            x.reached(NONE, 11)}, -1, -1, -1, -1, -1, -1, -1, -1, -1, -1, -1, -1, -1, -1, -1);
        PlaceNets ten = of("mJ;" + TEN);
        row("the tenth place and transition", new int[] {ten.reached(0, 9), ten.reached(0, 10)}, 1, 1023);
    }

    private static void deadTold() {
        said("How many of them are DEAD (what 0), the least of these (1; -3: none), from how many one can "
            + "come to the MARKING 0 (itself, too; 2), from how many to a DEAD one (themselves, too; 3)");
        PlaceNets ring = of(RING);
        row("none dead", new int[] {ring.dead(0), ring.dead(1), ring.dead(2), ring.dead(3)}, 0, -3, 2, 0);
        PlaceNets one = of("mA");
        row("the one is dead", new int[] {one.dead(0), one.dead(1), one.dead(2), one.dead(3)}, 1, 0, 1, 1);
        PlaceNets fork = of("mA;A>B;A>C;B>A;C>D;C>E");
        row("a fork", new int[] {fork.dead(0), fork.dead(1), fork.dead(2), fork.dead(3)}, 2, 3, 2, 5);
        PlaceNets trap = of("mA;A>B;A>C;C>C");
        row("some come to no dead one", new int[] {trap.dead(0), trap.dead(1), trap.dead(2), trap.dead(3)}, 1, 1, 1, 2);
        row("others", new int[] {ring.dead(-1), ring.dead(4), ring.dead(LEAST), ring.dead(GREATEST)}, -1, -1, -1, -1);
    }

    private static void aliveTold() {
        said("2 ALIVE, 1, 0");
        PlaceNets x = of(RING);
        row("others", new int[] {x.alive(-1), x.alive(2), x.alive(LEAST), x.alive(GREATEST), of("mA").alive(0)},
            -1, -1, -1, -1, -1);
        due("the tenth", of("mA;" + TEN).alive(9), 2);
        due("no 11th", of("mA;" + TEN).alive(10), NONE);
    }

    private static void waysTold() {
        said("The fewest firings by which one comes to just the GOAL: how many (i NONE), the i-th "
            + "TRANSITION of them (as the MARKINGS were met). -3: it can't be come to");
        PlaceNets x = of("mA;A>B;A>C;C>D;B>D;D>A");
        due("a goal of none can't be come to", x.way(NONE), -3);
        x.goal(0, 1);
        row("there already", new int[] {x.way(NONE), x.way(0), x.way(1)}, 0, -1, -1);
        x.goal(0, 0);
        x.goal(3, 1);
        row("by B, met first", new int[] {x.way(NONE), x.way(0), x.way(1), x.way(2)}, 2, 0, 3, -1);
        row("others", new int[] {x.way(-2), x.way(LEAST), x.way(GREATEST)}, -1, -1, -1);
        x.goal(0, 1);
        row("just the goal, no less", new int[] {x.way(NONE), x.way(0), x.way(GREATEST), x.way(-2)}, -3, -3, -3, -1);
        PlaceNets y = of("mA;A>");
        due("a goal of none", y.way(NONE), 1);
        y.fire(0);
        due("from the marking as it is", y.way(NONE), 0);
        PlaceNets z = of(">A");
        z.goal(0, 99);
        row("99 firings", new int[] {z.way(NONE), z.way(98), z.way(99)}, 99, 0, -1);
    }

    private static void flowsTold() {
        said("LEAST FLOWS of PLACES (kind 0), of TRANSITIONS (1): how many (i NONE, whatever k is), of "
            + "the i-th the number of the k-th PLACE, TRANSITION");
        PlaceNets x = of("A>B;B>C;C>A;A>A");
        for (int k : new int[] {LEAST, -2, -1, 0, 3, 10, GREATEST}) {
            row("how many, k " + k, new int[] {x.flow(0, NONE, k), x.flow(1, NONE, k)}, 1, 2);
        }
        row("places", new int[] {x.flow(0, 0, 0), x.flow(0, 0, 2), x.flow(0, 0, 3), x.flow(0, 0, -1), x.flow(0, 1, 0)},
            1, 1, -1, -1, -1);
        row("transitions", new int[] {x.flow(1, 0, 0), x.flow(1, 0, 3), x.flow(1, 1, 3), x.flow(1, 1, 4), x.flow(1, 1, -1),
            x.flow(1, 2, 0)}, 1, 0, 1, -1, -1, -1);
        row("others", new int[] {x.flow(-1, NONE, 0), x.flow(2, NONE, 0), x.flow(-1, 0, 0), x.flow(2, 0, 0),
            x.flow(0, -2, 0), x.flow(1, LEAST, 0), x.flow(0, GREATEST, 0), x.flow(LEAST, NONE, 0),
            x.flow(GREATEST, NONE, 0), x.flow(0, 0, LEAST), x.flow(1, 0, GREATEST)},
            -1, -1, -1, -1, -1, -1, -1, -1, -1, -1, -1);
    }

    private static void keptTold() {
        said("The sum of TOKENS now times the numbers of the i-th LEAST FLOW of PLACES (2,147,483,647 at most)");
        PlaceNets x = of("mA5B4C7D8E7F7G3H6I7;" + NINES);
        due("one below", x.kept(0), GREATEST - 1);
        x.put(9, 1);
        due("just so many", x.kept(0), GREATEST);
        x.put(9, 2);
        due("one above", x.kept(0), GREATEST);
        due("99 in each", with(NINES, 99, 99, 99, 99, 99, 99, 99, 99, 99, 99).kept(0), GREATEST);
        due("no tokens", of(NINES).kept(0), 0);
        row("others", new int[] {x.kept(-1), x.kept(1), x.kept(LEAST), x.kept(GREATEST), of(">A").kept(0)},
            -1, -1, -1, -1, -1);
    }

    private static void leastTold() {
        said("LEAST SIPHONS (kind 0), LEAST TRAPS (1): how many (i NONE), the i-th as bits");
        PlaceNets x = of("A>AB;C>D");
        row("how many", new int[] {x.least(0, NONE), x.least(1, NONE)}, 2, 3);
        row("siphons", sets(x, 0), 1, 4);
        row("traps", sets(x, 1), 1, 2, 8);
        row("others", new int[] {x.least(0, 2), x.least(1, 3), x.least(0, -2), x.least(-1, NONE), x.least(2, NONE),
            x.least(-1, 0), x.least(2, 0), x.least(0, GREATEST), x.least(1, LEAST), x.least(LEAST, 0),
            x.least(GREATEST, NONE)}, -1, -1, -1, -1, -1, -1, -1, -1, -1, -1, -1);
    }

    private static void trapsTold() {
        said("The TRAP IN a set of PLACES (bits). NONE: no such ones");
        PlaceNets x = of("mA");
        row("one place", new int[] {x.trapIn(0), x.trapIn(1), x.trapIn(2), x.trapIn(-1), x.trapIn(3)}, 0, 1, -1, -1, -1);
        PlaceNets y = of("mJ");
        row("ten", new int[] {y.trapIn(1023), y.trapIn(512), y.trapIn(1024), y.trapIn(1025), y.trapIn(LEAST),
            y.trapIn(GREATEST)}, 1023, 512, -1, -1, -1, -1);
    }

    private static void kindsTold() {
        said("1 PLAIN (no TRANSITION TAKES of, PUTS into a PLACE more than 1)");
        due("takes 2", of("A2>B").kinds() & 1, 0);
        due("puts 2", of("A>B2").kinds() & 1, 0);
        due("puts 2 by two letters", of("A>BB").kinds() & 1, 0);
        due("two places", of("AB>CD").kinds() & 1, 1);
        due("the tenth", of("mA;>;>;>;>;>;>;>;>;>;>J2").kinds() & 1, 0);
        said("2 PURE (no TRANSITION TAKES of and PUTS into one PLACE)");
        due("a loop", of("A>AB").kinds() & 2, 0);
        due("a loop of two", of("A>B;B>A").kinds() & 2, 2);
        said("4 a MACHINE (each TRANSITION TAKES one TOKEN in all and PUTS one)");
        due("none taken", of(">A").kinds() & 4, 0);
        due("none put", of("A>").kinds() & 4, 0);
        due("two taken", of("A2>B").kinds() & 4, 0);
        due("two put", of("A>BC").kinds() & 4, 0);
        due("one of them", of("A>B;A>BC").kinds() & 4, 0);
        due("a loop", of("A>A").kinds() & 4, 4);
        said("8 a CIRCUIT (of each PLACE one TRANSITION TAKES at most, one PUTS into it at most)");
        due("none", of("mA").kinds() & 8, 8);
        due("one each", of("A>A").kinds() & 8, 8);
        due("two take", of("A>;A>").kinds() & 8, 0);
        due("two put", of(">A;>A").kinds() & 8, 0);
        due("the same takes two", of("A2>").kinds() & 8, 8);
        said("16 FREE (TRANSITIONS that TAKE of a PLACE in common TAKE of the same PLACES)");
        due("none in common", of("A>;B>").kinds() & 16, 16);
        due("the same", of("AB>;AB>").kinds() & 16, 16);
        due("the same, other numbers", of("AB2>;A3B>").kinds() & 16, 16);
        due("one more", of("AB>;A>").kinds() & 16, 0);
        due("one more, the later", of("A>;AB>").kinds() & 16, 0);
        said("What the NET is, as bits");
        row("each without one of them", new int[] {of("A2>B;A2>").kinds(), of("AC>A;BD>B").kinds(), of("AC>BD").kinds(),
            of("A>B;A>B").kinds(), of("AB>C;A>D").kinds(), of("A2B>A;A>D").kinds()}, 18, 25, 27, 23, 3, 0);
        due("all without transitions", of("mA").kinds(), 31);
        due("no net", new PlaceNets().kinds(), NONE);
    }

    private static void caughtTold() {
        said("CAUGHT: 1, 0");
        row("1, 0, none", new int[] {of(RING).caught(), of("A>B;B>A").caught(), new PlaceNets().caught()}, 1, 0, -1);
        said("CAUGHT: in each LEAST SIPHON there is a TRAP in which a TOKEN is");
        due("a token beside the trap in the siphon", with("A>B;B>BA;A>C", 1, 0, 1).caught(), 0);
        due("one in it", with("A>B;B>BA;A>C", 0, 1, 0).caught(), 1);
    }

    private static void eventsTold() {
        said("its k-th CONDITION (3 and k; -3: so many there are not)");
        PlaceNets x = of("mA3B;A>C;A2B>D");
        row("of one", new int[] {x.event(0, 3), x.event(0, 4), x.event(0, 5), x.event(0, 6), x.event(0, GREATEST)},
            0, -3, -3, -3, -3);
        row("of three", new int[] {x.event(3, 3), x.event(3, 4), x.event(3, 5), x.event(3, 6), x.event(3, 7)},
            0, 1, 3, -3, -3);
        row("what", new int[] {x.event(0, 0), x.event(0, 1), x.event(0, 2), x.event(0, -1), x.event(0, LEAST)},
            0, 1, 0, -1, -1);
        said("EVENTS: how many (i NONE, what 0)");
        due("six", x.event(NONE, 0), 6);
        row("others", new int[] {x.event(6, 0), x.event(6, 3), x.event(6, 99), x.event(GREATEST, 0), x.event(-2, 0),
            x.event(LEAST, 0), x.event(NONE, 1), x.event(NONE, 3), x.event(NONE, -1), x.event(NONE, GREATEST)},
            -1, -1, -1, -1, -1, -1, -1, -1, -1, -1);
    }

    private static void conditionsTold() {
        said("CONDITIONS: how many (i NONE, what 0); of the i-th its PLACE (what 0), the EVENT it comes "
            + "of (1; -3: of none)");
        PlaceNets x = of("mA;A>J");
        due("two", x.condition(NONE, 0), 2);
        row("they", new int[] {x.condition(0, 0), x.condition(0, 1), x.condition(1, 0), x.condition(1, 1)}, 0, -3, 9, 0);
        row("others", new int[] {x.condition(2, 0), x.condition(2, 1), x.condition(GREATEST, 0), x.condition(-2, 0),
            x.condition(LEAST, 1), x.condition(0, 2), x.condition(0, -1), x.condition(0, GREATEST), x.condition(NONE, 1),
            x.condition(NONE, -1)}, -1, -1, -1, -1, -1, -1, -1, -1, -1, -1);
    }

    private static void atOnceTold() {
        said("Whether two CONDITIONS can hold at once: 1, 0");
        PlaceNets x = of("mA2;A>B");
        row("they", new int[] {x.atOnce(0, 1), x.atOnce(0, 2), x.atOnce(0, 3), x.atOnce(2, 3), x.atOnce(3, 3)},
            1, 0, 1, 1, 0);
        row("others", new int[] {x.atOnce(0, 4), x.atOnce(4, 0), x.atOnce(4, 4), x.atOnce(-1, 0), x.atOnce(0, -1),
            x.atOnce(LEAST, 0), x.atOnce(0, GREATEST), x.atOnce(GREATEST, GREATEST), x.atOnce(-1, -1)},
            -1, -1, -1, -1, -1, -1, -1, -1, -1);
    }

    private static void leavesTold() {
        said("TOKENS of a PLACE in the MARKING that the PAST of an EVENT leaves");
        PlaceNets x = of("mAB;A>C;B>D;C>");
        row("its past alone", leaves(x, 1), 1, 0, 0, 1);
        row("a past of two", leaves(x, 2), 0, 1, 0, 0);
        row("others", new int[] {x.leaves(3, 0), x.leaves(GREATEST, 0), x.leaves(-1, 0), x.leaves(LEAST, 0),
            x.leaves(0, 4), x.leaves(0, -1), x.leaves(0, LEAST), x.leaves(0, GREATEST), x.leaves(3, 4)},
            -1, -1, -1, -1, -1, -1, -1, -1, -1);
        due("the tenth place", of("mA;A>J9").leaves(0, 9), 9);
    }

    private static void countsTold() {
        said("0 PLACES, 1 TRANSITIONS, 2 all TOKENS now, 3 signs of THE TEXT, 4 what can be undone. NONE: others");
        PlaceNets x = with("mJ;" + TEN, 99, 99, 99, 99, 99, 99, 99, 99, 99, 99);
        x.fire(0);
        for (int n = 0; n < 60; n++) {
            x.sign(0);
        }
        row("full", new int[] {x.count(0), x.count(1), x.count(2), x.count(3), x.count(4)}, 10, 10, 990, 240, 10);
        row("others", new int[] {x.count(-1), x.count(5), x.count(LEAST), x.count(GREATEST)}, -1, -1, -1, -1);
        PlaceNets y = of("A>");
        row("empty", new int[] {y.count(0), y.count(1), y.count(2), y.count(3), y.count(4)}, 1, 1, 0, 0, 0);
    }

    private static void calls512() {
        said("An object is used for at most 512 calls after it has been made");
        PlaceNets x = new PlaceNets();
        int calls = 0;
        for (int i = 0; i < 12; i += 4) {
            x.sign(four("mA;A>B;B>A  ", i));
            calls++;
        }
        x.net();
        calls++;
        int fired = 0;
        for (; calls < 511; calls++) {
            due("fire " + calls, x.fire(fired % 2), 1);
            fired++;
        }
        due("the 512th", x.node(NONE, 0), 3);
        due("fired", fired, 507);
    }

    private static void words(String path) throws IOException {
        String document = Files.readString(Path.of(path)).replaceAll("\\s+", " ");
        for (String w : WORDS) {
            if (!document.contains(w)) {
                System.out.println("not in the document: " + w);
            }
        }
    }

    private static void terms() {
        textOf240();
        partsByThemselves();
        marksOfNothing();
        sidesOfNothing();
        tenTransitions();
        lettersOfPlaces();
        numbersBehindPlaces();
        placesToldAgain();
        placesUpToTheLast();
        tenOfBoth();
        blanks();
        firstFault();
        signsThatCannotStand();
        eleventhTransition();
        moreThanNine();
        moreThan99();
        noPlaceTold();
        markingOf99();
        justEnough();
        beyond99();
        noNetAtFirst();
        coveredWithoutBound();
        manyStaysMany();
        nodeZero();
        noEnds();
        growing();
        backToNodeZero();
        oldAheadOfDead();
        deadNodes();
        twoHundredNodes();
        markingsTo99();
        metInOrder();
        threeHundredMarkings();
        aliveByDegrees();
        fromTheMarkingAsItIs();
    }

    private static void moreTerms() {
        flowsNotAllZero();
        leastFlows();
        leastTerms();
        flowsAsBits();
        rowsThatStayAndGo();
        threeHundredRows();
        greatNumbers();
        siphonsAndTraps();
        closedSets();
        leastSets();
        setsAsBits();
        greatestTrap();
        caughtOrNot();
        firstConditions();
        unlikeConditions();
        behindCuts();
        sameEvents();
        eventsInOrder();
        conditionsOfCuts();
        cutByFewer();
        takesNothing();
        twelveTokens();
        threeTaken();
        thirtyEvents();
        holdAtOnce();
        netEmptiesTheText();
        netsInTurn();
        aNewNet();
        tenActs();
        refusedChangeNothing();
        refusedWithoutNet();
        refusedNumbers();
        refusedByWhatStands();
        constants();
        refusedInOrder();
        gettersWithoutNet();
        noneAheadOfTooMany();
        anyNumberWhereTooMany();
    }

    private static void promises() {
        newObject();
        highestByteFirst();
        noneCame();
        ends();
        nets();
        arcs();
        tokensOfOthers();
        canBits();
        fires();
        puts();
        runsToTheirEnd();
        draws();
        homes();
        undos();
        goals();
        nodesTold();
        boundsTold();
        coversTold();
        reachedTold();
        deadTold();
        aliveTold();
        waysTold();
        flowsTold();
        keptTold();
        leastTold();
        trapsTold();
        kindsTold();
        caughtTold();
        eventsTold();
        conditionsTold();
        atOnceTold();
        leavesTold();
        countsTold();
        calls512();
    }

    public static void main(String[] args) throws IOException {
        terms();
        moreTerms();
        promises();
        if (args.length > 0) {
            words(args[0]);
        }
        System.out.println(WORDS.size() + " sentences, " + done + " answers, " + wrong + " wrong");
        if (wrong != 0) {
            System.exit(1);
        }
    }
}
