import java.lang.reflect.InvocationTargetException;
import java.lang.reflect.Method;
import java.util.HashMap;
import java.util.Map;
import java.util.Random;

/** Long random runs, of the same seeds each time, in which PolicyGate has to answer as PlainGate does. */
public final class FuzzTest {
    private static final int READ = 0;
    private static final Map<String, Method> GATE = methodsOf(PolicyGate.class);
    private static final Map<String, Method> PLAIN = methodsOf(PlainGate.class);

    /** The calls that build come often, the dear questions seldom. */
    private static final String[] CALLS = {
        "addUser", "addUser", "addUser", "addRole", "addRole", "addRole", "addResource", "addResource", "addResource",
        "setRole", "setRole", "setRole", "setRole", "setHolds", "setHolds", "setHolds", "setApart", "setUser",
        "setLabel", "setWall", "setWall", "users", "roles", "resources", "near", "near", "far", "far",
        "addRule", "addRule", "addRule", "addRule", "addRule", "setRule", "setRule", "setRule", "setTerms", "dropRule",
        "rules", "setWeighing", "matches", "matches", "goOn", "clock", "grant", "grant", "grant", "grant", "revoke",
        "grants", "isGood", "isGood", "decide", "decide", "why", "why", "access", "access", "access", "access",
        "counted", "done", "done", "who", "reach", "rolesNeeded", "rolesNeeded", "contradictions", "isIdle", "isIdle",
        "wouldDiffer", "wouldGain", "wouldGain", "openness",
    };

    private final Random random;
    private final int mostUsers;
    private final int mostRoles;
    private final int mostResources;
    /** Runs in which rules are narrow, so that it takes several roles, or grants passed on, to be allowed. */
    private final boolean isNarrow;
    private final PolicyGate gate = new PolicyGate();
    private final PlainGate plain = new PlainGate();
    private final StringBuilder run = new StringBuilder();

    private FuzzTest(long seed, boolean isLarge) {
        random = new Random(seed);
        isNarrow = seed % 3 == 1;
        mostUsers = isLarge ? 13 : 2 + random.nextInt(4);
        mostRoles = isLarge ? 7 : 1 + random.nextInt(5);
        mostResources = isLarge ? 25 : 1 + random.nextInt(6);
    }

    public static void main(String[] args) {
        int runs = args.length > 0 ? Integer.parseInt(args[0]) : 400;
        for (int seed = 0; seed < runs; seed++) {
            boolean isLarge = seed % 40 == 0;
            new FuzzTest(seed, isLarge).go(seed, isLarge ? 300 : 512);
        }
        int severalRoles = 0;
        for (int seed = 0; seed < runs; seed++) {
            severalRoles += new FuzzTest(seed, false).goThereAndBack(seed);
        }
        Check.same("some need several roles", severalRoles * 10 > runs, true);
        for (int seed = 0; seed < runs / 80; seed++) {
            new FuzzTest(seed, true).goFull(seed);
        }
        Check.end("FuzzTest");
    }

    /** Grants to others and back again, by rights of several roles: the case in which one role may not be enough. */
    private int goThereAndBack(long seed) {
        String[] building = {"addUser", "addUser", "addUser", "addRole", "addRole", "addRole", "addRole"};
        for (String name : building) {
            answer(seed, name, name.equals("addUser") ? new Object[] {0, 0} : new Object[0]);
        }
        answer(seed, "addResource", 0);
        answer(seed, "addResource", 1);
        answer(seed, "setWeighing", random.nextInt(4));
        for (int k = 0; k < 6; k++) {
            answer(seed, "addRule", random.nextInt(6) > 0, 12 + random.nextInt(4), random.nextBoolean() ? 1 : 16,
                    random.nextInt(4) / 3);
            answer(seed, "setRule", k, random.nextInt(12) == 0, random.nextInt(3));
        }
        for (int k = 0; k < 8; k++) {
            int from = random.nextInt(3);
            answer(seed, "grant", from, otherThan(from), READ, random.nextInt(4) / 3, 3 - k / 2, 100);
        }
        for (int k = 0; k < 2; k++) {
            answer(seed, "setHolds", random.nextInt(4), random.nextInt(4), true);
            answer(seed, "setApart", random.nextInt(4), random.nextInt(4));
            answer(seed, "setRole", random.nextInt(3), random.nextInt(4), true);
        }
        int several = 0;
        for (int user = 0; user < 3; user++) {
            for (int resource = 0; resource < 3; resource++) {
                several += answer(seed, "rolesNeeded", user, READ, resource).compareTo("2") >= 0 ? 1 : 0;
                answer(seed, "wouldGain", user, resource);
            }
        }
        for (int rule = 0; rule < 6; rule++) {
            answer(seed, "isIdle", rule);
        }
        answer(seed, "digest");
        return several;
    }

    /** As many of everything as there can be, so that the last numbers of all meet. */
    private void goFull(long seed) {
        for (int k = 0; k < 13; k++) {
            answer(seed, "addUser", random.nextInt(5) / 4, random.nextInt(256));
            answer(seed, "addRole");
        }
        for (int k = 1; k < 25; k++) {
            answer(seed, "addResource", seed % 2 == 0 ? k - 1 : random.nextInt(k));
        }
        for (int k = 0; k < 12; k++) {
            answer(seed, "setApart", random.nextInt(12), random.nextInt(12));
        }
        for (int k = 0; k < 16; k++) {
            answer(seed, "setHolds", random.nextInt(12), random.nextInt(12), true);
            answer(seed, "setRole", random.nextInt(12), random.nextInt(12), true);
            answer(seed, "setRole", 11, random.nextInt(12), true);
        }
        for (int k = 0; k < 31; k++) {
            answer(seed, "addRule", random.nextInt(3) > 0, random.nextInt(24), 1 + random.nextInt(31),
                    random.nextInt(24) / (1 + k % 4));
            answer(seed, "setRule", k, random.nextBoolean(), random.nextInt(10));
            answer(seed, "grant", random.nextInt(12), random.nextInt(12), READ, random.nextInt(24) / (1 + k % 4),
                    random.nextInt(4), 100);
        }
        answer(seed, "setWall", 22, 3, 3);
        answer(seed, "setWall", 23, 3, 2);
        answer(seed, "setLabel", 21, 1);
        for (int weighing = 0; weighing < 4; weighing++) {
            answer(seed, "setWeighing", weighing);
            askFull(seed);
        }
    }

    private void askFull(long seed) {
        for (int k = 0; k < 12; k++) {
            answer(seed, "access", k, random.nextInt(5), 22 + k % 2);
            answer(seed, "wouldGain", k, random.nextInt(12));
        }
        for (int k = 0; k < 4; k++) {
            answer(seed, "rolesNeeded", random.nextInt(12), k, random.nextInt(24));
            answer(seed, "isIdle", 26 + k);
            answer(seed, "wouldDiffer", k);
        }
        answer(seed, "openness");
        answer(seed, "who", READ, 23);
        answer(seed, "reach", 11, READ);
        answer(seed, "dropRule", random.nextInt(30));
        answer(seed, "digest");
    }

    private String answer(long seed, String name, Object... arguments) {
        String call = name + java.util.Arrays.toString(arguments);
        String due = ask(PLAIN.get(name), plain, arguments);
        Check.same("seed " + seed + ": " + call, ask(GATE.get(name), gate, arguments), due);
        return due.startsWith("throws") ? "" : due;
    }

    private static Map<String, Method> methodsOf(Class<?> type) {
        Map<String, Method> methods = new HashMap<>();
        for (Method m : type.getDeclaredMethods()) {
            if (java.lang.reflect.Modifier.isPublic(m.getModifiers())) {
                m.setAccessible(true);
                methods.put(m.getName(), m);
            }
        }
        return methods;
    }

    private void go(long seed, int calls) {
        for (int n = 0; n < calls; n++) {
            String name = n % 24 == 23 || n == calls - 1 ? "digest" : CALLS[random.nextInt(CALLS.length)];
            if (isFull(name)) {
                continue;
            }
            Object[] arguments = argumentsOf(name);
            String call = name + java.util.Arrays.toString(arguments);
            String due = ask(PLAIN.get(name), plain, arguments);
            String got = ask(GATE.get(name), gate, arguments);
            run.append(call).append(" = ").append(due).append('\n');
            Check.same("seed " + seed + ", call " + n + ": " + call, got, due);
            if (!got.equals(due)) {
                System.out.println(run);
                return;
            }
        }
    }

    /** Keeps the runs small, so that the same users and resources meet often. */
    private boolean isFull(String name) {
        boolean fullUsers = name.equals("addUser") && plain.users() >= mostUsers;
        boolean fullRoles = name.equals("addRole") && plain.roles() >= mostRoles;
        boolean fullResources = name.equals("addResource") && plain.resources() >= mostResources;
        return (fullUsers || fullRoles || fullResources) && !(plain.users() == 12 && name.equals("addUser"));
    }

    private static String ask(Method method, Object object, Object[] arguments) {
        try {
            return String.valueOf(method.invoke(object, arguments));
        } catch (InvocationTargetException e) {
            return "throws." + e.getCause().getClass().getSimpleName();
        } catch (IllegalAccessException e) {
            throw new AssertionError(e);
        }
    }

    private Object[] argumentsOf(String name) {
        switch (name) {
            case "addUser":
                return new Object[] {level(), traits()};
            case "addResource":
                return new Object[] {resource()};
            case "setRole":
                return new Object[] {user(), role(), mostly()};
            case "setHolds":
                return new Object[] {role(), role(), mostly()};
            case "setApart":
                return new Object[] {role(), role()};
            case "setUser":
                return new Object[] {user(), level(), traits()};
            case "setLabel":
                return new Object[] {resource(), level()};
            case "setWall":
                return new Object[] {resource(), up(2) - 1 + (rare() ? random.nextInt(9) - 4 : 0), up(3)};
            case "near":
            case "wouldGain":
                return new Object[] {user(), role()};
            case "far":
                return new Object[] {resource(), resource()};
            case "addRule":
                return new Object[] {random.nextInt(3) > 0 || isNarrow && random.nextBoolean(),
                    random.nextInt(isNarrow ? 6 : 2) == 0 ? user() : 12 + role(), actions(), resource()};
            case "setRule":
                return new Object[] {rule(), isNarrow ? rare() : mostly(), up(2) + up(2)};
            case "setTerms":
                return new Object[] {rule(), odd(random.nextInt(4)), up(23), up(23)};
            case "dropRule":
            case "isIdle":
                return new Object[] {rule()};
            case "setWeighing":
            case "wouldDiffer":
                return new Object[] {up(3)};
            case "matches":
                return new Object[] {rule(), user(), action(), resource()};
            case "goOn":
                return new Object[] {odd(1 + random.nextInt(random.nextInt(4) == 0 ? 10000 : 90))};
            case "grant":
                int from = user();
                return new Object[] {from, otherThan(from), isNarrow ? 0 : action(), resource(), up(3),
                    odd(1 + random.nextInt(1500))};
            case "revoke":
            case "isGood":
                return new Object[] {odd(plain.grants() == 0 ? 0 : random.nextInt(plain.grants()))};
            case "counted":
                return new Object[] {up(5)};
            case "decide":
            case "why":
            case "access":
            case "rolesNeeded":
                return new Object[] {user(), action(), resource()};
            case "done":
                return new Object[] {user(), resource()};
            case "who":
                return new Object[] {action(), resource()};
            case "reach":
                return new Object[] {user(), action()};
            default:
                return new Object[0];
        }
    }

    private boolean rare() {
        return random.nextInt(60) == 0;
    }

    private boolean mostly() {
        return random.nextInt(4) > 0;
    }

    /** The number, but seldom one next to an edge, or far outside. */
    private int odd(int number) {
        if (!rare()) {
            return number;
        }
        int[] others = {-1, Integer.MIN_VALUE, Integer.MAX_VALUE, 4, 5, 12, 24, 30, 32, 256, 10001, 0, -number};
        return others[random.nextInt(others.length)];
    }

    private int up(int last) {
        return rare() ? last + 1 : odd(random.nextInt(last + 1));
    }

    /** Most are 0, or too much would be kept off by labels. */
    private int level() {
        return odd(random.nextInt(3) == 0 ? random.nextInt(4) : 0);
    }

    private int traits() {
        return odd(random.nextInt(4));
    }

    private int action() {
        return odd(random.nextInt(3) == 0 ? random.nextInt(5) : random.nextInt(2));
    }

    private int actions() {
        if (isNarrow) {
            return random.nextBoolean() ? 1 : 16;
        }
        return random.nextBoolean() ? 31 : odd(1 + random.nextInt(31));
    }

    private int user() {
        return odd(plain.users() == 0 ? 0 : random.nextInt(plain.users()));
    }

    private int otherThan(int user) {
        if (plain.users() < 2 || rare()) {
            return user();
        }
        return Math.floorMod(user + 1 + random.nextInt(plain.users() - 1), plain.users());
    }

    private int role() {
        return odd(plain.roles() == 0 ? 0 : random.nextInt(plain.roles()));
    }

    private int resource() {
        return odd(random.nextInt(plain.resources()));
    }

    private int rule() {
        return odd(plain.rules() == 0 ? 0 : random.nextInt(plain.rules()));
    }
}
