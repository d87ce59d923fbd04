import java.lang.management.ManagementFactory;
import java.lang.reflect.Constructor;
import java.lang.reflect.Field;
import java.lang.reflect.Method;
import java.lang.reflect.Modifier;
import java.util.ArrayList;
import java.util.List;
import java.util.Set;
import java.util.TreeSet;

/** The face of the document, the rules of LANGUAGE.md that the compiled class shows, and the room of a run. */
public final class Rules {
    private static final String[] FACE = {
        "int sign(int)", "boolean end(int)", "int net()", "int arc(int,int,int)", "int tokens(int,int)", "int can()",
        "int fire(int)", "int put(int,int)", "int run(int,int)", "int home()", "int undo()", "int goal(int,int)",
        "int node(int,int)", "int bound(int)", "int covers(int)", "int reached(int,int)", "int dead(int)",
        "int alive(int)", "int way(int)", "int flow(int,int,int)", "int kept(int)", "int least(int,int)",
        "int trapIn(int)", "int kinds()", "int caught()", "int event(int,int)", "int condition(int,int)",
        "int atOnce(int,int)", "int leaves(int,int)", "int count(int)"};
    // Bytes of one object with all its rows; some 1,000 nets and markings in a run must add nothing to it.
    private static final long MOST_BYTES = 200000;
    private static int wrong = 0;

    private static void fail(String what) {
        wrong++;
        System.out.println(what);
    }

    private static void face() {
        Set<String> want = new TreeSet<>(List.of(FACE));
        Set<String> got = new TreeSet<>();
        Set<String> names = new TreeSet<>();
        for (Method m : PlaceNets.class.getDeclaredMethods()) {
            if (Modifier.isPublic(m.getModifiers())) {
                List<String> types = new ArrayList<>();
                for (Class<?> c : m.getParameterTypes()) {
                    types.add(c.getName());
                }
                got.add(m.getReturnType() + " " + m.getName() + "(" + String.join(",", types) + ")");
                names.add(m.getName());
            }
        }
        if (!got.equals(want)) {
            fail("rule 1: the face is " + got);
        }
        Constructor<?>[] made = PlaceNets.class.getDeclaredConstructors();
        if (made.length != 1 || !Modifier.isPublic(made[0].getModifiers()) || made[0].getParameterCount() != 0) {
            fail("rule 1: the constructor");
        }
        if (!Modifier.isFinal(PlaceNets.class.getModifiers())) {
            fail("rule 1: the class is not final");
        }
        members(names);
    }

    private static void members(Set<String> names) {
        for (Method m : PlaceNets.class.getDeclaredMethods()) {
            boolean open = Modifier.isPublic(m.getModifiers());
            if (!open && (!Modifier.isPrivate(m.getModifiers()) || names.contains(m.getName()))) {
                fail("rule 1: method " + m.getName());
            }
        }
        for (Field f : PlaceNets.class.getDeclaredFields()) {
            boolean constant = f.getName().equals("NONE") || f.getName().equals("MANY");
            if (constant ? !Modifier.isPublic(f.getModifiers()) : !Modifier.isPrivate(f.getModifiers())) {
                fail("rule 1: field " + f.getName());
            }
        }
        if (PlaceNets.class.getDeclaredClasses().length > 12) {
            fail("rule 11: more than twelve classes");
        }
        fields(PlaceNets.class);
        for (Class<?> c : PlaceNets.class.getDeclaredClasses()) {
            fields(c);
            if (!Modifier.isStatic(c.getModifiers()) || Modifier.isPublic(c.getModifiers())) {
                fail("rule 1: class " + c.getName());
            }
            for (Method m : c.getDeclaredMethods()) {
                if (names.contains(m.getName())) {
                    fail("rule 1: method " + c.getName() + "." + m.getName());
                }
            }
        }
    }

    private static void fields(Class<?> c) {
        int n = 0;
        for (Field f : c.getDeclaredFields()) {
            if (Modifier.isStatic(f.getModifiers())) {
                if (!Modifier.isFinal(f.getModifiers())) {
                    fail("rule 5: " + c.getName() + "." + f.getName());
                }
            } else {
                n++;
            }
        }
        if (n > 20) {
            fail("rule 11: " + c.getName() + " has " + n + " fields");
        }
    }

    private static void tell(PlaceNets x, String text) {
        for (int i = 0; i < text.length(); i += 4) {
            x.sign(text.charAt(i) << 24 | text.charAt(i + 1) << 16 | text.charAt(i + 2) << 8 | text.charAt(i + 3));
        }
        x.net();
    }

    private static void askAll(PlaceNets x) {
        x.node(-1, 0);
        x.reached(-1, 0);
        x.way(-1);
        x.flow(0, -1, 0);
        x.flow(1, -1, 0);
        x.kept(0);
        x.least(0, 0);
        x.caught();
        x.event(-1, 0);
    }

    private static void room() {
        com.sun.management.ThreadMXBean threads = (com.sun.management.ThreadMXBean) ManagementFactory.getThreadMXBean();
        long most = 0;
        for (int n = 0; n < 3; n++) {
            long before = threads.getThreadAllocatedBytes(Thread.currentThread().getId());
            PlaceNets x = new PlaceNets();
            for (int k = 0; k < 512; k++) {
                if (k % 16 == 0) {
                    tell(x, k % 32 == 0 ? "mA9B3;A>B;B>C;C>A;AB>D;D>AB;A2>E" : "mABC;AB>CD;CD>EF;EF>GH;GH>AB    ");
                }
                x.put(k % 3, k % 5);
                askAll(x);
                x.run(k, 50);
                askAll(x);
                x.undo();
            }
            most = threads.getThreadAllocatedBytes(Thread.currentThread().getId()) - before;
        }
        if (most > MOST_BYTES) {
            fail("rule 12: an object takes " + most + " bytes");
        }
    }

    public static void main(String[] args) {
        face();
        room();
        System.out.println(wrong == 0 ? "the rules hold" : wrong + " rules broken");
        if (wrong != 0) {
            System.exit(1);
        }
    }
}
