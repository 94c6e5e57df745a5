import java.lang.reflect.Constructor;
import java.lang.reflect.Field;
import java.lang.reflect.Method;
import java.lang.reflect.Modifier;
import java.util.Arrays;
import java.util.TreeSet;
import java.util.stream.Collectors;

/** The public face of the document, to the letter and nothing beside it. */
public final class FaceTest {
    private static final String OUTSIDE = " throws IndexOutOfBoundsException";
    private static final String ILLEGAL = " throws IllegalArgumentException";
    private static final String REFUSED = " throws IllegalStateException";
    private static final String OUTSIDE_ILLEGAL = OUTSIDE + ",IllegalArgumentException";
    private static final String OUTSIDE_REFUSED = OUTSIDE + ",IllegalStateException";
    private static final String ALL_THREE = OUTSIDE_ILLEGAL + ",IllegalStateException";

    private static final String[] FACE = {
        "int addUser(int,int)" + ILLEGAL + ",IllegalStateException",
        "int addRole()" + REFUSED,
        "int addResource(int)" + OUTSIDE_REFUSED,
        "boolean setRole(int,int,boolean)" + OUTSIDE_REFUSED,
        "boolean setHolds(int,int,boolean)" + ALL_THREE,
        "int setApart(int,int)" + ALL_THREE,
        "int setUser(int,int,int)" + OUTSIDE_ILLEGAL,
        "int setLabel(int,int)" + OUTSIDE_ILLEGAL,
        "boolean setWall(int,int,int)" + OUTSIDE_ILLEGAL,
        "int users()",
        "int roles()",
        "int resources()",
        "int near(int,int)" + OUTSIDE,
        "int far(int,int)" + OUTSIDE,
        "int addRule(boolean,int,int,int)" + ALL_THREE,
        "int setRule(int,boolean,int)" + OUTSIDE_ILLEGAL,
        "int setTerms(int,int,int,int)" + OUTSIDE_ILLEGAL,
        "int dropRule(int)" + OUTSIDE,
        "int rules()",
        "int setWeighing(int)" + ILLEGAL,
        "boolean matches(int,int,int,int)" + OUTSIDE,
        "int goOn(int)" + ILLEGAL,
        "int clock()",
        "int grant(int,int,int,int,int,int)" + ALL_THREE,
        "boolean revoke(int)" + OUTSIDE,
        "int grants()",
        "boolean isGood(int)" + OUTSIDE,
        "int decide(int,int,int)" + OUTSIDE,
        "int why(int,int,int)" + OUTSIDE,
        "int access(int,int,int)" + OUTSIDE,
        "int counted(int)" + ILLEGAL,
        "int done(int,int)" + OUTSIDE,
        "int who(int,int)" + OUTSIDE,
        "int reach(int,int)" + OUTSIDE,
        "int rolesNeeded(int,int,int)" + OUTSIDE,
        "int contradictions()",
        "boolean isIdle(int)" + OUTSIDE,
        "int wouldDiffer(int)" + ILLEGAL,
        "int wouldGain(int,int)" + OUTSIDE,
        "double openness()",
        "long digest()",
    };

    private FaceTest() {
    }

    public static void main(String[] args) {
        Class<?> gate = PolicyGate.class;
        Check.same("the class", Modifier.toString(gate.getModifiers()), "public final");
        Check.same("constructors", gate.getDeclaredConstructors().length, 1);
        for (Constructor<?> made : gate.getDeclaredConstructors()) {
            Check.same("constructor", made.toString(), "public PolicyGate()");
        }
        TreeSet<String> face = new TreeSet<>();
        TreeSet<String> faceNames = new TreeSet<>();
        for (Method m : gate.getDeclaredMethods()) {
            if (Modifier.isPublic(m.getModifiers())) {
                face.add(told(m));
                faceNames.add(m.getName());
            }
        }
        Check.same("the face", String.join("\n", face), String.join("\n", new TreeSet<>(Arrays.asList(FACE))));
        for (Method m : gate.getDeclaredMethods()) {
            boolean isFace = Modifier.isPublic(m.getModifiers());
            Check.same(m + " is public or private", isFace || Modifier.isPrivate(m.getModifiers()), true);
            Check.same(m + " has a name of its own", !isFace && faceNames.contains(m.getName()), false);
        }
        for (Field f : gate.getDeclaredFields()) {
            Check.same(f + " is private", Modifier.isPrivate(f.getModifiers()), true);
        }
        for (Class<?> inside : gate.getDeclaredClasses()) {
            checkInside(inside, faceNames);
        }
        Check.end("FaceTest");
    }

    private static void checkInside(Class<?> inside, TreeSet<String> faceNames) {
        int modifiers = inside.getModifiers();
        Check.same(inside + " is hidden", Modifier.isPublic(modifiers) || Modifier.isProtected(modifiers), false);
        Check.same(inside + " is static", Modifier.isStatic(modifiers), true);
        for (Method m : inside.getDeclaredMethods()) {
            Check.same(m + " has a name of its own", faceNames.contains(m.getName()), false);
            Check.same(m + " takes few parameters", m.getParameterCount() <= 7, true);
        }
        for (Field f : inside.getDeclaredFields()) {
            boolean isStatic = Modifier.isStatic(f.getModifiers());
            Check.same(f + " is no static state", isStatic && !Modifier.isFinal(f.getModifiers()), false);
        }
    }

    private static String told(Method m) {
        String parameters = Arrays.stream(m.getParameterTypes()).map(Class::getName).collect(Collectors.joining(","));
        String thrown = Arrays.stream(m.getExceptionTypes()).map(Class::getSimpleName)
                .collect(Collectors.joining(","));
        return m.getReturnType().getName() + " " + m.getName() + "(" + parameters + ")"
                + (thrown.isEmpty() ? "" : " throws " + thrown);
    }
}
