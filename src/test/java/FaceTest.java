import java.lang.reflect.Constructor;
import java.lang.reflect.Field;
import java.lang.reflect.Method;
import java.lang.reflect.Modifier;
import java.util.Set;
import java.util.TreeSet;

/** The public face is the document's and no more, and no call throws, whatever it is given. */
public final class FaceTest {
    private static final Set<String> FACE = Set.of(
            "public static final int BAD_ARG",
            "public static final int FULL",
            "public static final int NONE",
            "public ForestPacker(int)",
            "public int vertices()",
            "public int edge(int,int)",
            "public int unedge()",
            "public int rejoin(int,int,int)",
            "public int edges()",
            "public int between(int,int)",
            "public int hold(int)",
            "public int needed()",
            "public int trees()",
            "public int firm(int)",
            "public boolean isFirm(int,int)",
            "public boolean welcome(int,int,int)",
            "public int room(int)",
            "public int parts()");

    private static final int[] ODD = {
        Integer.MIN_VALUE, Integer.MIN_VALUE + 1, -17, -1, 0, 1, 6, 7, 15, 16, 17, 1 << 30,
        Integer.MAX_VALUE - 1, Integer.MAX_VALUE};

    private static int wrong = 0;

    private static void fault(String what) {
        wrong++;
        System.out.println(what);
    }

    private static Set<String> visibleMembers() {
        Set<String> seen = new TreeSet<>();
        for (Field f : ForestPacker.class.getDeclaredFields()) {
            if (!Modifier.isPrivate(f.getModifiers())) {
                seen.add(f.toString().replace("ForestPacker.", ""));
            }
        }
        for (Constructor<?> c : ForestPacker.class.getDeclaredConstructors()) {
            seen.add(c.toString());
        }
        for (Method m : ForestPacker.class.getDeclaredMethods()) {
            if (!Modifier.isPrivate(m.getModifiers())) {
                seen.add(m.toString().replace("ForestPacker.", ""));
            }
        }
        return seen;
    }

    private static void checkFace() {
        Set<String> seen = visibleMembers();
        for (String member : FACE) {
            if (!seen.contains(member)) {
                fault("missing: " + member);
            }
        }
        for (String member : seen) {
            if (!FACE.contains(member)) {
                fault("not in the document: " + member);
            }
        }
        int modifiers = ForestPacker.class.getModifiers();
        if (!Modifier.isPublic(modifiers) || !Modifier.isFinal(modifiers)) {
            fault("the class is not public and final");
        }
    }

    private static void callAll(ForestPacker x, int a, int b, int c) {
        x.between(a, b);
        x.hold(a);
        x.firm(a);
        x.isFirm(a, b);
        x.welcome(a, b, c);
        x.room(a);
        x.rejoin(a, b, c);
        x.edge(a, b);
        x.needed();
        x.trees();
        x.parts();
    }

    private static void checkNothingThrown() {
        for (int vertices : ODD) {
            for (int before = 0; before <= 16; before += 8) {
                for (int a : ODD) {
                    ForestPacker x = new ForestPacker(vertices);
                    for (int e = 0; e < before; e++) {
                        x.edge(0, x.vertices() - 1);
                    }
                    callWithOdd(x, a);
                }
            }
        }
    }

    private static void callWithOdd(ForestPacker x, int a) {
        for (int b : ODD) {
            int c = ODD[(b & 15) % ODD.length];
            try {
                callAll(x, a, b, c);
            } catch (RuntimeException e) {
                fault("a call with " + a + ", " + b + ", " + c + " threw " + e);
            }
        }
    }

    public static void main(String[] args) {
        checkFace();
        checkNothingThrown();
        System.out.println(wrong == 0 ? "the face is as due" : wrong + " faults");
        if (wrong != 0) {
            System.exit(1);
        }
    }
}
