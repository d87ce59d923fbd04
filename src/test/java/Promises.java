import java.util.NoSuchElementException;

/** For each promise of the document: ordinary inputs, the edges that it names, wrong inputs. */
public final class Promises {
    private static final int LEAST = Integer.MIN_VALUE;
    private static final int GREATEST = Integer.MAX_VALUE;
    private static final String RING = "mA;A>B;B>A";
    private static int wrong = 0;
    private static int done = 0;

    private static void due(String what, int got, int want) {
        done++;
        if (got != want) {
            wrong++;
            System.out.println(what + " answered " + got + ", due is " + want);
        }
    }

    private static void due(String what, boolean got, boolean want) {
        due(what, got ? 1 : 0, want ? 1 : 0);
    }

    /** Answers one behind the other. */
    private static void row(String what, int[] got, int... want) {
        due(what + ": how many", got.length, want.length);
        for (int k = 0; k < got.length && k < want.length; k++) {
            due(what + " [" + k + "]", got[k], want[k]);
        }
    }

    private static int tell(PlaceNets x, String text) {
        StringBuilder s = new StringBuilder(text);
        while (s.length() % 4 != 0) {
            s.append(' ');
        }
        for (int i = 0; i < s.length(); i += 4) {
            x.sign(s.charAt(i) << 24 | s.charAt(i + 1) << 16 | s.charAt(i + 2) << 8 | s.charAt(i + 3));
        }
        x.end(text.length());
        return x.net();
    }

    private static PlaceNets of(String text) {
        PlaceNets x = new PlaceNets();
        due("net() of " + text + " has no fault", tell(x, text) >= 0, true);
        return x;
    }

    private static int fault(String text) {
        return tell(new PlaceNets(), text);
    }

    private static int[] marking(PlaceNets x) {
        int[] m = new int[x.count(0)];
        for (int p = 0; p < m.length; p++) {
            m[p] = x.tokens(p, 0);
        }
        return m;
    }

    private static int[] node(PlaceNets x, int i) {
        int places = x.count(0);
        int[] n = new int[places + 3];
        for (int p = 0; p < places; p++) {
            n[p] = x.node(i, p);
        }
        for (int k = 0; k < 3; k++) {
            n[places + k] = x.node(i, 10 + k);
        }
        return n;
    }

    private static int[] flow(PlaceNets x, int kind, int i) {
        int[] f = new int[x.count(kind)];
        for (int k = 0; k < f.length; k++) {
            f[k] = x.flow(kind, i, k);
        }
        return f;
    }

    private static int[] sets(PlaceNets x, int kind) {
        int[] s = new int[x.least(kind, -1)];
        for (int i = 0; i < s.length; i++) {
            s[i] = x.least(kind, i);
        }
        return s;
    }

    /** Transition, size of the past, cut, then the conditions. */
    private static int[] event(PlaceNets x, int i) {
        int n = 3;
        while (x.event(i, n) >= 0) {
            n++;
        }
        int[] e = new int[n];
        for (int k = 0; k < n; k++) {
            e[k] = x.event(i, k);
        }
        return e;
    }

    private static boolean throwsNoSuch(PlaceNets x, int t, int p, int what) {
        try {
            x.arc(t, p, what);
        } catch (NoSuchElementException e) {
            return true;
        }
        return false;
    }

    private static void newObject() {
        PlaceNets x = new PlaceNets();
        due("1 can", x.can(), -1);
        for (int what = 0; what < 5; what++) {
            due("1 count " + what, x.count(what), 0);
        }
        due("1 kinds", x.kinds(), -1);
        due("1 caught", x.caught(), -1);
        due("1 trapIn(0)", x.trapIn(0), -1);
        due("1 bound", x.bound(0), -1);
        due("1 covers", x.covers(0), -1);
        due("1 node", x.node(-1, 0), -1);
        due("1 reached", x.reached(-1, 0), -1);
        due("1 dead", x.dead(0), -1);
        due("1 alive", x.alive(0), -1);
        due("1 way", x.way(-1), -1);
        due("1 flow", x.flow(0, -1, 0), -1);
        due("1 kept", x.kept(0), -1);
        due("1 least", x.least(0, -1), -1);
        due("1 event", x.event(-1, 0), -1);
        due("1 condition", x.condition(-1, 0), -1);
        due("1 atOnce", x.atOnce(0, 1), -1);
        due("1 leaves", x.leaves(0, 0), -1);
        due("1 tokens", x.tokens(0, 0), -1);
        due("1 NONE", PlaceNets.NONE, -1);
        due("1 MANY", PlaceNets.MANY, -9);
    }

    private static void signs() {
        PlaceNets x = new PlaceNets();
        due("2 highest byte first", x.sign(0x6D41203B), 4);
        due("2 more", x.sign(0x413E4220), 8);
        due("2 read", x.net(), 1);
        due("2 read places", x.count(0), 2);
        for (int n = 4; n <= 240; n += 4) {
            due("2 up to 240", x.sign(0x20202020), n);
        }
        due("2 beyond 240", x.sign(0), -1);
        due("2 none came", x.count(3), 240);
        due("2 all blanks", x.net(), -1240);
        for (int n = 0; n < 60; n++) {
            x.sign(0x20202020);
        }
        x.end(239);
        due("2 would be 243", x.sign(0x41414141), -1);
        due("2 stays 239", x.count(3), 239);
        x.end(236);
        due("2 just 240", x.sign(0x413E4220), 240);
        due("2 at the end", x.net(), 1);
        x.sign(0xFF000000 | 'A' << 16 | '>' << 8 | 'A');
        due("2 sign 255 can't stand", x.net(), -1000);
        x.sign('A' << 24 | '>' << 16 | 'B' << 8);
        due("2 sign 0 can't stand", x.net(), -1003);
    }

    private static void ends() {
        PlaceNets x = new PlaceNets();
        due("3 none of none", x.end(0), true);
        due("3 not so many", x.end(1), false);
        x.sign(0x413E4220);
        due("3 below 0", x.end(-1), false);
        due("3 far below 0", x.end(LEAST), false);
        due("3 five of four", x.end(5), false);
        due("3 far above", x.end(GREATEST), false);
        due("3 all", x.end(4), true);
        due("3 still", x.count(3), 4);
        due("3 two", x.end(2), true);
        due("3 two left", x.count(3), 2);
        due("3 the rest is gone", x.end(3), false);
        due("3 A>", x.net(), 1);
        due("3 one place", x.count(0), 1);
    }

    private static void nets() {
        due("4 empty", fault(""), -1000);
        due("4 blanks", fault("   "), -1003);
        due("4 no place", fault(">"), -1001);
        due("4 no place with m", fault("m;>; m "), -1007);
        due("4 ends in a part", fault("A"), -1001);
        due("4 ends behind ;", fault("A>;"), -1003);
        due("4 ends behind ; and blank", fault("mA; "), -1004);
        due("4 ; at the start", fault(";A>"), -1000);
        due("4 two ;", fault("A>;;B>"), -1003);
        due("4 two >", fault("A>B>C"), -1003);
        due("4 > behind m", fault("mA>B"), -1002);
        due("4 m behind a place", fault("A m"), -1002);
        due("4 two m", fault("mAm"), -1002);
        due("4 ; without >", fault("AB;"), -1002);
        due("4 K", fault("K>"), -1000);
        due("4 small letter", fault("a>"), -1000);
        due("4 0", fault("A0>"), -1001);
        due("4 two digits", fault("A12>"), -1002);
        due("4 digit behind a blank", fault("A 2>"), -1002);
        due("4 digit alone", fault("2A>"), -1000);
        due("4 nine together", fault("A8A>"), 1);
        due("4 ten together", fault("A5BA5>"), -1003);
        due("4 ten by the number", fault("A9A>"), -1002);
        due("4 ten ahead of the number's fault", fault("A9A0>"), -1002);
        due("4 number's fault at nine", fault("A8A0>"), -1003);
        due("4 ten on the right", fault(">A9 A"), -1004);
        due("4 nine on both sides", fault("A9>A9;A9>A9"), 2);
        due("4 ten, then no >", fault("A9A"), -1002);
        String m99 = "mA9A9A9A9A9;mA9A9A9A9A9A9";
        due("4 99 in all", fault(m99), 0);
        due("4 100 in all", fault(m99 + ";m BA"), -1000 - m99.length() - 4);
        due("4 99, another place", fault(m99 + "B"), 0);
        String ten = ">;>;>;>;>;>;>;>;>;>";
        due("4 ten transitions", fault(ten + ";mA"), 10);
        due("4 the 11th >", fault(ten + ";B >A"), -1000 - ten.length() - 3);
        due("4 ten together ahead of the 11th >", fault(ten + ";B9B>A"), -1000 - ten.length() - 3);
        due("4 an 11th that ends", fault(ten + ";B"), -1000 - ten.length() - 2);
        due("4 blanks", fault("  m  A2  B ;  A  B2 >  C ; > ;m "), 2);

        PlaceNets x = of(" mAC3; A2 B A > C;C>;m A2");
        due("4 places", x.count(0), 3);
        due("4 transitions", x.count(1), 2);
        row("4 m counts together", marking(x), 3, 0, 3);
        due("4 takes together", x.arc(0, 0, 0), 3);
        x.goal(1, 4);
        x.put(1, 5);
        due("4 a fault", tell(x, "AB"), -1002);
        due("4 empties the text", x.count(3), 0);
        row("4 a fault leaves the marking", marking(x), 3, 5, 3);
        due("4 a fault leaves the goal", x.tokens(1, 2), 4);
        due("4 a fault leaves the acts", x.count(4), 1);
        due("4 a fault leaves the net", x.arc(0, 0, 0), 3);
        due("4 the same again", tell(x, "mAC3;A3B>C;C>;mA2"), 2);
        row("4 the marking is the first", marking(x), 3, 0, 3);
        due("4 the goal is 0", x.tokens(1, 2), 0);
        due("4 nothing to undo", x.undo(), -3);
        due("4 a lesser net", tell(x, "m"), -1001);
        due("4 a lesser net", tell(x, "mA"), 0);
        due("4 one place", x.count(0), 1);
        due("4 only J told", fault("mJ"), 0);
        due("4 ten places by J", of("mJ").count(0), 10);
    }

    private static void arcs() {
        PlaceNets x = of("A2B>B3;>C");
        due("5 takes", x.arc(0, 0, 0), 2);
        due("5 puts none", x.arc(0, 0, 1), 0);
        due("5 puts", x.arc(0, 1, 1), 3);
        due("5 takes one", x.arc(0, 1, 0), 1);
        due("5 second", x.arc(1, 2, 1), 1);
        due("5 what 2", x.arc(0, 0, 2), -1);
        due("5 what -1", x.arc(0, 0, -1), -1);
        due("5 no transition", throwsNoSuch(x, 2, 0, 0), true);
        due("5 no transition -1", throwsNoSuch(x, -1, 0, 0), true);
        due("5 no place", throwsNoSuch(x, 0, 3, 1), true);
        due("5 no place -1", throwsNoSuch(x, 0, -1, 1), true);
        due("5 far", throwsNoSuch(x, GREATEST, LEAST, 0), true);
        due("5 no net", throwsNoSuch(new PlaceNets(), 0, 0, 0), true);
    }

    private static void tokens() {
        PlaceNets x = of("mA3B;A>C");
        x.fire(0);
        x.goal(2, 9);
        row("6 now", marking(x), 2, 1, 1);
        due("6 first", x.tokens(0, 1), 3);
        due("6 goal", x.tokens(2, 2), 9);
        due("6 goal 0", x.tokens(0, 2), 0);
        due("6 what 3", x.tokens(0, 3), -1);
        due("6 what -1", x.tokens(0, -1), -1);
        due("6 no place", x.tokens(3, 0), -1);
        due("6 no place", x.tokens(-1, 1), -1);
    }

    private static void cans() {
        PlaceNets x = of("mA2B;A2>;A3>;C>;B>C;>C");
        due("7 as bits", x.can(), 1 + 8 + 16);
        x.put(2, 99);
        due("7 beyond 99", x.can(), 1 + 4);
        PlaceNets y = of("A9>A9B;A>A2");
        y.put(0, 99);
        due("7 less first, then more", y.can(), 1);
        y.put(0, 98);
        due("7 just 99", y.can(), 3);
        due("7 none", of("mA").can(), 0);
    }

    private static void fires() {
        PlaceNets x = of("mA2;A>B;B2>A;>");
        due("8 how many can then", x.fire(0), 2);
        due("8 how many can then", x.fire(0), 2);
        row("8 marking", marking(x), 0, 2);
        due("8 can't", x.fire(0), -3);
        due("8 the last", x.fire(1), 2);
        row("8 marking", marking(x), 1, 0);
        due("8 no such", x.fire(3), -2);
        due("8 no such", x.fire(-1), -2);
        due("8 no net", new PlaceNets().fire(0), -2);
        due("8 acts", x.count(4), 3);
    }

    private static void puts() {
        PlaceNets x = of("mA3;A>B");
        due("9 had", x.put(0, 99), 3);
        due("9 had", x.put(0, 0), 99);
        due("9 100", x.put(0, 100), -1);
        due("9 below 0", x.put(0, -1), -1);
        due("9 no place", x.put(2, 1), -2);
        due("9 no place", x.put(-1, 1), -2);
        due("9 the number first", x.put(7, 100), -1);
        due("9 no net", new PlaceNets().put(0, 1), -2);
        due("9 no net, number", new PlaceNets().put(0, -5), -1);
        due("9 acts", x.count(4), 2);
        due("9 the same", x.put(0, 0), 0);
        due("9 is an act", x.count(4), 3);
    }

    private static void runs() {
        // s: 0 -> 12345 -> 629109 (mod 1000003)
        int s1 = 12345;
        int s2 = (int) ((1103L * s1 + 12345) % 1000003);
        int s3 = (int) ((1103L * s2 + 12345) % 1000003);
        PlaceNets x = of(">A;>B;>C;>D;>E;>F;>G");
        int[] want = new int[7];
        want[s1 % 7]++;
        want[s2 % 7]++;
        want[s3 % 7]++;
        due("10 three", x.run(0, 3), 3);
        row("10 drawn", marking(x), want);
        due("10 one act", x.count(4), 1);
        x = of("mA5B;A>;B>C;D>");
        due("10 ends", x.run(999999, 200), 6);
        row("10 ended", marking(x), 0, 0, 1, 0);
        due("10 none fired", x.run(1, 1), 0);
        due("10 is an act all the same", x.count(4), 2);
        due("10 seed", x.run(-1, 1), -1);
        due("10 seed", x.run(1000000, 1), -1);
        due("10 n", x.run(0, 0), -1);
        due("10 n", x.run(0, 201), -1);
        due("10 n", x.run(5, LEAST), -1);
        due("10 refused is no act", x.count(4), 2);
        due("10 no net", new PlaceNets().run(0, 1), -2);
        due("10 no net, number", new PlaceNets().run(0, 0), -1);
        due("10 200", of(RING).run(3, 200), 200);
    }

    private static void homes() {
        PlaceNets x = of("mA3B2;A>C");
        x.fire(0);
        x.put(1, 50);
        x.goal(0, 1);
        due("11 tokens", x.home(), 5);
        row("11 marking", marking(x), 3, 2, 0);
        due("11 the goal stays", x.tokens(0, 2), 1);
        due("11 an act", x.count(4), 3);
        x.undo();
        row("11 undone", marking(x), 2, 50, 1);
        due("11 no net", new PlaceNets().home(), -2);
    }

    private static void undos() {
        PlaceNets x = of("mA;A>AB");
        due("12 none", x.undo(), -3);
        due("12 no net", new PlaceNets().undo(), -2);
        for (int n = 0; n < 13; n++) {
            x.fire(0);
        }
        due("12 ten at most", x.count(4), 10);
        x.goal(0, 7);
        for (int n = 9; n >= 0; n--) {
            due("12 yet", x.undo(), n);
            row("12 marking", marking(x), 1, 3 + n);
        }
        due("12 none more", x.undo(), -3);
        row("12 the eldest three stay", marking(x), 1, 3);
        due("12 the goal stays", x.tokens(0, 2), 7);
        x.put(0, 0);
        x.fire(0);
        due("12 what was refused is no act", x.undo(), 0);
        row("12 put undone", marking(x), 1, 3);
        x.run(0, 5);
        due("12 a run is one", x.undo(), 0);
        row("12 run undone", marking(x), 1, 3);
    }

    private static void goals() {
        PlaceNets x = of(RING);
        due("13 had 0", x.goal(1, 99), 0);
        due("13 had 99", x.goal(1, 0), 99);
        due("13 100", x.goal(1, 100), -1);
        due("13 below 0", x.goal(1, -1), -1);
        due("13 no place", x.goal(2, 1), -2);
        due("13 number first", x.goal(2, 100), -1);
        due("13 no net", new PlaceNets().goal(0, 0), -2);
        due("13 no act", x.count(4), 0);
    }

    private static void nodes() {
        // A>AB grows B; then B>C grows C of many
        PlaceNets x = of("mA;A>AB;B>C");
        row("14 root", node(x, 0), 1, 0, 0, -1, -1, 0);
        row("14 B grows", node(x, 1), 1, -9, 0, 0, 0, 0);
        row("14 old", node(x, 2), 1, -9, 0, 1, 0, 2);
        row("14 C grows", node(x, 3), 1, -9, -9, 1, 1, 0);
        row("14 old", node(x, 4), 1, -9, -9, 3, 0, 2);
        row("14 old", node(x, 5), 1, -9, -9, 3, 1, 2);
        due("14 how many", x.node(-1, 0), 6);
        due("14 no such node", x.node(6, 0), -1);
        due("14 no such place", x.node(0, 3), -1);
        due("14 what 9", x.node(0, 9), -1);
        due("14 what 13", x.node(0, 13), -1);
        due("14 what -1", x.node(0, -1), -1);
        due("14 how many of what", x.node(-1, 10), -1);
        due("14 i -2", x.node(-2, 0), -1);

        PlaceNets dead = of("mA;A>B;A>C");
        row("14 dead", node(dead, 1), 0, 1, 0, 0, 0, 1);
        row("14 dead", node(dead, 2), 0, 0, 1, 0, 1, 1);
        PlaceNets old = of("mA2;A>B");
        old.put(1, 0);
        row("14 dead, not old", node(old, 2), 0, 2, 1, 0, 1);
        PlaceNets both = of("mAB;A>;B>");
        row("14 old ahead of dead", node(both, 4), 0, 0, 2, 0, 2);
        row("14 dead", node(both, 3), 0, 0, 1, 1, 1);

        // ancestors from the nearest on; the new one as it is by then
        PlaceNets chain = of("mA;A>B;B>A2C");
        row("14 both grow", node(chain, 2), -9, 0, -9, 1, 1, 0);

        PlaceNets great = of("mA;A>AB9");
        great.put(1, 99);
        row("14 no bound of 99", node(great, 1), 1, -9, 0, 0, 0);
        PlaceNets above = of("mA;A>CB9;C>DB9;D>");
        above.put(1, 99);
        row("14 tokens above 99", node(above, 2), 0, 117, 0, 1, 1, 1, 0);

        PlaceNets full = of("mA;A>B;>");
        full.put(0, 99);
        due("14 200 nodes", full.node(-1, 0), 200);
        due("14 the last", full.node(199, 11), 1);
        PlaceNets over = of("A>B;>;>");
        over.put(0, 66);
        due("14 201 nodes", over.node(-1, 0), -2);
        due("14 201, any i", over.node(5000, 12), -2);
        due("14 201, no such what", over.node(0, 2), -1);
        due("14 201, how many of what", over.node(-1, 1), -1);
        due("14 201, i -2", over.node(-2, 0), -1);
        over.put(0, 65);
        due("14 as the marking is", over.node(-1, 0), 198);
        over.undo();
        due("14 as the marking was", over.node(-1, 0), -2);
    }

    private static void bounds() {
        PlaceNets x = of("mA2;A>B;B>C2;D>D");
        due("15 most", x.bound(0), 2);
        due("15 most", x.bound(1), 2);
        due("15 most", x.bound(2), 4);
        due("15 most", x.bound(3), 0);
        x.put(3, 1);
        due("15 by the marking as it is", x.bound(3), 1);
        due("15 many", of("mA;A>AB").bound(1), -9);
        due("15 no place", x.bound(4), -1);
        due("15 no place", x.bound(-1), -1);
        PlaceNets over = of("A>B;>;>");
        over.put(0, 66);
        due("15 too many", over.bound(0), -2);
        due("15 no place, too many", over.bound(2), -1);
    }

    private static void covering() {
        PlaceNets x = of("mA2;A>B;B>A");
        due("16 all cover 0", x.covers(1), 5);
        due("16 the least", x.covers(0), 0);
        x.goal(1, 1);
        due("16 B", x.covers(0), 1);
        due("16 B how many", x.covers(1), 3);
        x.goal(1, 3);
        due("16 none", x.covers(0), -3);
        due("16 none", x.covers(1), 0);
        due("16 what", x.covers(2), -1);
        due("16 what", x.covers(-1), -1);
        PlaceNets many = of("mA;A>AB");
        many.goal(1, 99);
        many.goal(0, 1);
        due("16 many covers", many.covers(0), 1);
        due("16 many covers", many.covers(1), 2);
        PlaceNets over = of("A>B;>;>");
        over.put(0, 66);
        due("16 too many", over.covers(0), -2);
        due("16 too many, what", over.covers(2), -1);
    }

    private static void reaching() {
        PlaceNets x = of("mA2;A>B;A2>C");
        due("17 how many", x.reached(-1, 0), 4);
        int[] all = new int[4 * 5];
        for (int i = 0; i < 4; i++) {
            for (int p = 0; p < 3; p++) {
                all[5 * i + p] = x.reached(i, p);
            }
            all[5 * i + 3] = x.reached(i, 10);
            all[5 * i + 4] = x.reached(i, 11);
        }
        row("17 as met", all, 2, 0, 0, 3, 0, 1, 1, 0, 1, 1, 0, 0, 1, 0, 1, 0, 2, 0, 0, 2);
        due("17 no such", x.reached(4, 0), -1);
        due("17 no such place", x.reached(0, 3), -1);
        due("17 what 9", x.reached(0, 9), -1);
        due("17 what 12", x.reached(0, 12), -1);
        due("17 what -1", x.reached(0, -1), -1);
        due("17 how many of what", x.reached(-1, 1), -1);
        due("17 i -2", x.reached(-2, 0), -1);
        due("17 99 at most", of("mA;A>AB").reached(-1, 0), 100);
        PlaceNets full = of("A>B;C>D");
        full.put(0, 99);
        full.put(2, 2);
        due("17 300", full.reached(-1, 0), 300);
        due("17 300, the last", full.reached(299, 11), 101);
        full.put(0, 42);
        full.put(2, 6);
        due("17 301", full.reached(-1, 0), -2);
        due("17 301, any i", full.reached(GREATEST, 11), -2);
        due("17 301, what", full.reached(0, 4), -1);
        due("17 301, how many of what", full.reached(-1, 10), -1);
        full.undo();
        due("17 as the marking is", full.reached(-1, 0), 129);
    }

    private static void deadOnes() {
        // 0 A -> 1 B (back to A), 2 C (dead), 0 A
        PlaceNets x = of("mA;A>B;A>C;B>A;>");
        due("18 none is dead: > always can", x.dead(0), 0);
        due("18 none", x.dead(1), -3);
        x = of("mA;A>B;A>C;B>A;B>D;D>E");
        due("18 how many", x.dead(0), 2);
        due("18 the least", x.dead(1), 2);
        due("18 back to 0", x.dead(2), 2);
        due("18 to a dead one", x.dead(3), 5);
        due("18 what", x.dead(4), -1);
        due("18 what", x.dead(-1), -1);
        PlaceNets ring = of(RING);
        due("18 ring", ring.dead(2), 2);
        due("18 ring", ring.dead(3), 0);
        PlaceNets full = of("A>B;C>D");
        full.put(0, 42);
        full.put(2, 6);
        due("18 too many", full.dead(0), -2);
        due("18 too many, what", full.dead(4), -1);
    }

    private static void living() {
        PlaceNets x = of("mA;A>B;B>A;A>C;C>C;D>A");
        due("19 once", x.alive(0), 1);
        due("19 once", x.alive(1), 1);
        due("19 once", x.alive(2), 1);
        due("19 always in the end", x.alive(3), 2);
        due("19 never", x.alive(4), 0);
        due("19 no such", x.alive(5), -1);
        due("19 no such", x.alive(-1), -1);
        due("19 ring", of(RING).alive(1), 2);
        PlaceNets full = of("A>B;C>D");
        full.put(0, 42);
        full.put(2, 6);
        due("19 too many", full.alive(0), -2);
        due("19 too many, no such", full.alive(2), -1);
    }

    private static void ways() {
        PlaceNets x = of("mA;A>B;B>C;A>D;D>C;C>A");
        x.goal(2, 1);
        due("20 how many", x.way(-1), 2);
        due("20 as met", x.way(0), 0);
        due("20 as met", x.way(1), 1);
        due("20 no such", x.way(2), -1);
        due("20 i -2", x.way(-2), -1);
        x.goal(2, 2);
        due("20 can't", x.way(-1), -3);
        due("20 can't", x.way(0), -3);
        x.goal(2, 0);
        x.goal(0, 1);
        due("20 there already", x.way(-1), 0);
        due("20 there already", x.way(0), -1);
        PlaceNets full = of("A>B;C>D");
        full.put(0, 42);
        full.put(2, 6);
        due("20 too many", full.way(-1), -2);
        due("20 too many, any i", full.way(77), -2);
        due("20 too many, i", full.way(-2), -1);
    }

    private static void flows() {
        PlaceNets x = of("A2>B3;B>C;C3>A2;D>E;E>D");
        due("21 places", x.flow(0, -1, GREATEST), 2);
        row("21 in least terms", flow(x, 0, 0), 3, 2, 2, 0, 0);
        row("21 as bits rising", flow(x, 0, 1), 0, 0, 0, 1, 1);
        due("21 transitions", x.flow(1, -1, LEAST), 2);
        row("21 rounds", flow(x, 1, 0), 1, 3, 1, 0, 0);
        row("21 rounds", flow(x, 1, 1), 0, 0, 0, 1, 1);
        due("21 no such flow", x.flow(0, 2, 0), -1);
        due("21 no such place", x.flow(0, 0, 5), -1);
        due("21 no such place", x.flow(0, 0, -1), -1);
        due("21 kind", x.flow(2, -1, 0), -1);
        due("21 kind", x.flow(-1, -1, 0), -1);
        due("21 i -2", x.flow(0, -2, 0), -1);
        PlaceNets least = of("AB>CD");
        due("21 four pairs", least.flow(0, -1, 0), 4);
        row("21 AC", flow(least, 0, 0), 1, 0, 1, 0);
        row("21 BC", flow(least, 0, 1), 0, 1, 1, 0);
        row("21 AD", flow(least, 0, 2), 1, 0, 0, 1);
        row("21 BD", flow(least, 0, 3), 0, 1, 0, 1);
        due("21 no round", least.flow(1, -1, 0), 0);
        PlaceNets none = of("mAB");
        due("21 without transitions", none.flow(0, -1, 0), 2);
        due("21 without transitions", none.flow(1, -1, 0), 0);
        PlaceNets again = of("D>E;A>B");
        row("21 the last one", flow(again, 0, 2), 0, 0, 0, 1, 1);
        tell(again, "mABC");
        row("21 of the new net", flow(again, 0, 0), 1, 0, 0);
        row("21 of the new net", flow(again, 0, 2), 0, 0, 1);
        row("21 a loop changes nothing", flow(of("A>A;>B"), 1, 0), 1, 0);
    }

    private static void flowsTooFar() {
        String chain = "A>B9;B>C9;C>D9;D>E9;E>F9;F>G9;G>H9;H>I9;I>J9";
        PlaceNets x = of("mA9A9A9A9A9A9A9A9A9A9A9;" + chain);
        row("21 nines", flow(x, 0, 0), 387420489, 43046721, 4782969, 531441, 59049, 6561, 729, 81, 9, 1);
        due("22 at most", x.kept(0), GREATEST);
        x.put(0, 5);
        due("22 below", x.kept(0), 5 * 387420489);
        PlaceNets edge = of("mA5B4C7D8E7F7G3H6I7;" + chain);
        due("22 one below the most", edge.kept(0), GREATEST - 1);
        edge.put(9, 1);
        due("22 just the most", edge.kept(0), GREATEST);
        edge.put(9, 2);
        due("22 one above the most", edge.kept(0), GREATEST);
        // 1,000,000,000 told by nines
        due("21 a change of 1000000000", of(chain + ";>A2B5C2E6G7HJ").flow(0, -1, 0), 0);
        due("21 a change of 1000000001", of(chain + ";>A2B5C2E6G7HJ2").flow(0, -1, 0), -2);
        due("21 a change of -1000000000", of(chain + ";A2B5C2E6G7HJ>").flow(0, -1, 0), 0);
        PlaceNets far = of(chain + ";A2B5C2E6G7HJ2>");
        due("21 a change of -1000000001", far.flow(0, -1, 0), -2);
        due("21 too far, any i", far.flow(0, 1000, 0), -2);
        due("21 too far, any i, the last place", far.flow(0, GREATEST, 9), -2);
        due("21 too far, whatever k is", far.flow(0, -1, GREATEST), -2);
        due("21 too far, no such place", far.flow(0, 0, 10), -1);
        due("21 too far, no such place, any i", far.flow(0, 1000, GREATEST), -1);
        due("21 too far, k below 0", far.flow(0, 0, -1), -1);
        due("21 too far, i below", far.flow(0, -2, 0), -1);
        due("21 too far, kind", far.flow(2, 0, 0), -1);
        due("21 rounds do not go too far", far.flow(1, -1, 0), 0);
        due("22 too far", far.kept(0), -2);
        due("22 too far, any i", far.kept(300), -2);
        due("22 too far, i", far.kept(-1), -1);
        // D .. J are 900000, 90000, .., 9, 1; A, B, C are 9, 8, 128; the last one makes C 128 times its change
        String tens = "I>J9;H>I9J9;G>H9I9J9;F>G9H9I9J9;E>F9G9H9I9J9;D>E9F9G9H9I9J9;A8>B9;C>A8B7;A>BD8E6F8H5I5J";
        due("21 a number of 1000000000", of(tens + "5").flow(0, 0, 2), 1000000000);
        due("21 a number of 1000000128", of(tens + "6").flow(0, 0, 2), -2);
        due("21 a number of 1047467008, no change",
            of("A5>E7;C8F9>B9D9;B9D7I7>H8;G9I5>B7H5;H7I8>D7J5;A8G7>D5J9;E9>H8").flow(0, -1, 0), -2);
        due("21 300 rows", of("AC2IJ>BD2EFGH;ADGH>BCEJ;ADEGJ>F2I;B2C>DEH2IJ").flow(0, -1, 0), 32);
        due("21 300 rows, some of which stay",
            of("B2DJ>CF2GHI;AE2GI>DFH;ABC2H>DEFGIJ;ABDE>CFGIJ;ADHI2>FGJ").flow(0, -1, 0), 15);
        due("21 301 rows", of("ABDGHIJ>CF2;BEFGJ>A2CDHI;AE2FH>BC2DGI;DFJ2>ABCGH2I").flow(0, -1, 0), -2);
        String rounds = ">A9;A>B9;B>C9;C>D9;D>E9;E>F9;F>G9;G>H9;H>I9;I>J";
        due("21 rounds, a change of 774840978", of(rounds + "2").flow(1, -1, 0), 0);
        PlaceNets farRounds = of(rounds + "3");
        due("21 rounds, a change of 1162261467", farRounds.flow(1, -1, 0), -2);
        due("21 rounds too far, any i", farRounds.flow(1, 99, 9), -2);
        due("21 rounds too far, whatever k is", farRounds.flow(1, -1, LEAST), -2);
        due("21 rounds too far, no such transition", farRounds.flow(1, 0, 10), -1);
        due("21 rounds too far, k below 0", farRounds.flow(1, 0, -1), -1);
        farBySides();
        due("21 places do not go too far", farRounds.flow(0, -1, 0), 0);
    }

    /** Fewer transitions than places, and fewer places than transitions: k is asked of its own kind. */
    private static void farBySides() {
        PlaceNets wide = of("ABDGHIJ>CF2;BEFGJ>A2CDHI;AE2FH>BC2DGI;DFJ2>ABCGH2I");
        due("21 too far, a place beyond the transitions", wide.flow(0, 0, 9), -2);
        due("21 too far, no such place", wide.flow(0, 0, 10), -1);
        due("21 places too far, a transition", wide.flow(1, -1, 0), 0);
        due("21 places too far, no such transition", wide.flow(1, 0, 4), -1);
        PlaceNets high = of("AC>B2D;AB>CD;>ABC2D;AD>BC;BC2>;BCD>A2;AB>CD;AC>BD2;A>BCD;ABD2>");
        due("21 rounds too far", high.flow(1, -1, 0), -2);
        due("21 rounds too far, a transition beyond the places", high.flow(1, 0, 9), -2);
        due("21 rounds too far, no such transition", high.flow(1, 0, 10), -1);
        due("21 rounds too far, a place", high.flow(0, 0, 3), -1);
    }

    private static void keeping() {
        PlaceNets x = of("mA2B;A2>B3;D>E");
        due("22 first", x.kept(0), 8);
        due("22 second", x.kept(1), 0);
        x.fire(0);
        due("22 nothing is lost", x.kept(0), 8);
        x.put(1, 0);
        due("22 now", x.kept(0), 0);
        due("22 no such", x.kept(3), -1);
        due("22 NONE", x.kept(-1), -1);
    }

    private static void leastSets() {
        PlaceNets x = of("A>B;B>C;C>B;D>DE");
        row("23 siphons", sets(x, 0), 1, 8);
        row("23 traps", sets(x, 1), 6, 8, 16);
        due("23 no such", x.least(0, 2), -1);
        due("23 kind", x.least(2, -1), -1);
        due("23 kind", x.least(-1, 0), -1);
        due("23 i", x.least(0, -2), -1);
        row("23 both", sets(of("AB>CD;CD>AB"), 0), 5, 6, 9, 10);
        due("23 no siphon", of(">A").least(0, -1), 0);
        row("23 a trap", sets(of(">A"), 1), 1);
        row("23 without transitions", sets(of("mAC"), 0), 1, 2, 4);
    }

    private static void traps() {
        PlaceNets x = of("A>B;B>C;C>B;D>DE;E>A");
        due("24 all", x.trapIn(31), 31);
        due("24 some go, then more", x.trapIn(1 + 4 + 8), 8);
        due("24 BC", x.trapIn(2 + 4 + 16), 6);
        due("24 none", x.trapIn(1 + 4), 0);
        due("24 empty", x.trapIn(0), 0);
        due("24 no such", x.trapIn(32), -1);
        due("24 no such", x.trapIn(-1), -1);
        due("24 no such", x.trapIn(LEAST), -1);
        due("24 far", x.trapIn(GREATEST), -1);
        due("24 a long chain", of("B>A;C>B;D>C;E>D;F>E;G>F;H>G;I>H;J>I;A>").trapIn(1023), 0);
    }

    private static void kindsOfNets() {
        due("25 all", of(RING).kinds(), 31);
        due("25 without transitions", of("mA").kinds(), 31);
        due("25 not plain", of("A2>B").kinds(), 2 + 8 + 16);
        due("25 not plain by puts", of("A>B2").kinds(), 2 + 8 + 16);
        due("25 not pure", of("A>A").kinds(), 1 + 4 + 8 + 16);
        due("25 no machine: takes none", of(">A").kinds(), 1 + 2 + 8 + 16);
        due("25 no machine: puts two", of("A>BC").kinds(), 1 + 2 + 8 + 16);
        due("25 no circuit: taken twice", of("A>B;A>C").kinds(), 1 + 2 + 4 + 16);
        due("25 no circuit: put twice", of("A>C;B>C").kinds(), 1 + 2 + 4 + 16);
        due("25 not free", of("AB>C;A>D").kinds(), 1 + 2);
        due("25 free, other numbers", of("A2B>C;AB>D").kinds(), 2 + 16);
        due("25 nothing", of("A2B>A;A>D").kinds(), 0);
    }

    private static void catching() {
        PlaceNets x = of("A>B;B>A;C>D");
        due("26 empty", x.caught(), 0);
        x.put(0, 1);
        due("26 C has no trap", x.caught(), 0);
        due("26 ring", of(RING).caught(), 1);
        PlaceNets ring = of(RING);
        ring.put(0, 0);
        due("26 as it is", ring.caught(), 0);
        due("26 no siphon", of(">A").caught(), 1);
        // the one least siphon AB has the trap B alone
        PlaceNets part = of("A>B;B>BA;A>C");
        row("26 siphons", sets(part, 0), 3);
        part.put(0, 1);
        part.put(2, 1);
        due("26 a token beside the trap", part.caught(), 0);
        part.put(1, 1);
        due("26 a token in the trap", part.caught(), 1);
    }

    private static void events() {
        PlaceNets x = of("mAB;A>C;B>D;CD>AB");
        due("27 how many", x.event(-1, 0), 3);
        row("27 first", event(x, 0), 0, 1, 0, 0);
        row("27 second", event(x, 1), 1, 1, 0, 1);
        row("27 back", event(x, 2), 2, 3, 1, 2, 3);
        due("27 -3", x.event(2, 5), -3);
        due("27 -3 far", x.event(0, GREATEST), -3);
        due("27 no such", x.event(3, 0), -1);
        due("27 no such", x.event(3, 9), -1);
        due("27 what", x.event(0, -1), -1);
        due("27 i", x.event(-2, 0), -1);
        due("27 how many of what", x.event(-1, 3), -1);

        // rows rising, of like tokens each pair
        PlaceNets pairs = of("mA3;A2>B");
        row("27 pairs", event(pairs, 0), 0, 1, 0, 0, 1);
        row("27 pairs", event(pairs, 1), 0, 1, 0, 0, 2);
        row("27 pairs", event(pairs, 2), 0, 1, 0, 1, 2);
        due("27 pairs", pairs.event(-1, 0), 3);
        // the fewest events first, then the least transition
        PlaceNets order = of("mAC;B>A;C>D;A>B");
        row("27 order", event(order, 0), 1, 1, 0, 1);
        row("27 order", event(order, 1), 2, 1, 0, 0);
        row("27 order, cut by the first marking", event(order, 2), 0, 2, 1, 3);
        due("27 order", order.event(-1, 0), 3);
        // two ways to the same marking: the longer one is cut, the equal one is not
        PlaceNets equal = of("mA;A>B;A>B;B>C");
        due("27 equal pasts are not cut", equal.event(-1, 0), 4);
        due("27 equal pasts are not cut", equal.event(1, 2), 0);
        due("27 equal pasts are not cut", equal.event(3, 2), 0);
        PlaceNets longer = of("mA;A>B;A>C;C>B;B>D");
        row("27 longer is cut", event(longer, 3), 3, 2, 0, 1);
        row("27 longer is cut", event(longer, 2), 2, 2, 1, 2);
        due("27 nothing behind a cut", longer.event(-1, 0), 4);
        due("27 its condition is there", longer.condition(-1, 0), 5);
        due("27 takes nothing", of("mA;>A").event(-1, 0), 0);
        due("27 no two of one past", of("mA;A>B;A>C;BC>D").event(-1, 0), 2);
    }

    private static void unfoldingLimits() {
        PlaceNets x = of("mA9B3");
        due("27 12 tokens", x.condition(-1, 0), 12);
        x.put(2, 0);
        x.put(1, 4);
        due("27 13 tokens", x.condition(-1, 0), -2);
        due("27 takes three", of("mAB;A2B>C").event(-1, 0), 0);
        due("27 takes four", of("mAB;A3B>C").event(-1, 0), -2);
        due("27 30 events", of("mA9AE;A>B;B>C;C>D").event(-1, 0), 30);
        PlaceNets over = of("mA9AE;A>B;B>C;C>D;E>F");
        due("27 31 events", over.event(-1, 0), -2);
        due("27 31, any i", over.event(GREATEST, GREATEST), -2);
        due("27 31, how many of what", over.event(-1, 1), -1);
        due("27 31, what", over.event(0, -1), -1);
        due("28 31, any i", over.condition(99, 1), -2);
        due("28 31, what", over.condition(99, 2), -1);
        due("28 31, how many of what", over.condition(-1, 1), -1);
        due("29 31, any a, b", over.atOnce(0, 5000), -2);
        due("29 31, a", over.atOnce(-1, 5), -1);
        due("30 31, any event", over.leaves(5000, 5), -2);
        due("30 31, place", over.leaves(0, 6), -1);
        due("30 31, event", over.leaves(-1, 0), -1);
        due("28 80 conditions", of("mAJ7;A>B9C9D9E9F9G9H9I9").condition(-1, 0), 80);
        due("28 81 conditions", of("mAJ8;A>B9C9D9E9F9G9H9I9").condition(-1, 0), -2);
    }

    private static void conditions() {
        PlaceNets x = of("mAC2;A>BA2;C>");
        due("28 -2 without an end", x.condition(-1, 0), -2);
        x = of("mAC2;A>D2B");
        int[] got = new int[12];
        for (int i = 0; i < 6; i++) {
            got[2 * i] = x.condition(i, 0);
            got[2 * i + 1] = x.condition(i, 1);
        }
        row("28 place by place", got, 0, -3, 2, -3, 2, -3, 1, 0, 3, 0, 3, 0);
        due("28 how many", x.condition(-1, 0), 6);
        due("28 no such", x.condition(6, 0), -1);
        due("28 what", x.condition(0, 2), -1);
        due("28 what", x.condition(0, -1), -1);
        due("28 how many of what", x.condition(-1, 1), -1);
        due("28 i", x.condition(-2, 0), -1);
        x.put(0, 0);
        due("28 as the marking is", x.condition(-1, 0), 2);
    }

    private static void together() {
        // 0 A, 1 B; e0 A>C: 2; e1 A>D: 3; e2 B>E2: 4, 5; e3 of CE: ...
        PlaceNets x = of("mAB;A>C;A>D;B>E2;CE>F");
        due("29 first ones", x.atOnce(0, 1), 1);
        due("29 itself", x.atOnce(0, 0), 0);
        due("29 in the past", x.atOnce(0, 2), 0);
        due("29 in the past, turned", x.atOnce(2, 0), 0);
        due("29 beside", x.atOnce(1, 2), 1);
        due("29 instead", x.atOnce(2, 3), 0);
        due("29 of one event", x.atOnce(4, 5), 1);
        due("29 of unlike events", x.atOnce(2, 4), 1);
        due("29 F with the other E", x.atOnce(6, 5), 1);
        due("29 F with its E", x.atOnce(6, 4), 0);
        due("29 F with D", x.atOnce(3, 6), 0);
        due("29 two F", x.atOnce(6, 7), 0);
        due("29 no such", x.atOnce(0, 8), -1);
        due("29 no such", x.atOnce(8, 0), -1);
        due("29 below 0", x.atOnce(0, -1), -1);
    }

    private static void leaving() {
        PlaceNets x = of("mAB;A>C;B>D;CD>AB");
        int[] got = new int[12];
        for (int e = 0; e < 3; e++) {
            for (int p = 0; p < 4; p++) {
                got[4 * e + p] = x.leaves(e, p);
            }
        }
        row("30 leaves", got, 0, 1, 1, 0, 1, 0, 0, 1, 1, 1, 0, 0);
        due("30 no such event", x.leaves(3, 0), -1);
        due("30 no such event", x.leaves(-1, 0), -1);
        due("30 no such place", x.leaves(0, 4), -1);
        due("30 no such place", x.leaves(0, -1), -1);
    }

    private static void counts() {
        PlaceNets x = of("mA3C2;A>B;B>A");
        x.fire(0);
        x.sign(0);
        due("31 places", x.count(0), 3);
        due("31 transitions", x.count(1), 2);
        due("31 tokens", x.count(2), 5);
        due("31 signs", x.count(3), 4);
        due("31 undo", x.count(4), 1);
        due("31 what", x.count(5), -1);
        due("31 what", x.count(-1), -1);
        x.put(0, 99);
        due("31 tokens now", x.count(2), 102);
    }

    public static void main(String[] args) {
        newObject();
        signs();
        ends();
        nets();
        arcs();
        tokens();
        cans();
        fires();
        puts();
        runs();
        homes();
        undos();
        goals();
        nodes();
        bounds();
        covering();
        reaching();
        deadOnes();
        living();
        ways();
        flows();
        flowsTooFar();
        keeping();
        leastSets();
        traps();
        kindsOfNets();
        catching();
        events();
        unfoldingLimits();
        conditions();
        together();
        leaving();
        counts();
        System.out.println(done + " answers, " + wrong + " wrong");
        if (wrong != 0) {
            System.exit(1);
        }
    }
}
