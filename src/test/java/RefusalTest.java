import java.util.function.Consumer;
import java.util.function.Supplier;

/**
 * Each sentence that says what a call throws: what is just outside and far outside is refused, what is just inside is
 * taken, the exception that is named first comes first, and a refused call changed nothing.
 */
public final class RefusalTest {
    private static final String OUTSIDE = "IndexOutOfBoundsException";
    private static final String ILLEGAL = "IllegalArgumentException";
    private static final String REFUSED = "IllegalStateException";
    private static final int BIG = Integer.MAX_VALUE;
    private static final int SMALL = Integer.MIN_VALUE;

    /** How many there are on the rich gate. */
    private static final int USERS = 3;
    private static final int ROLES = 5;
    private static final int RESOURCES = 4;
    private static final int RULES = 3;
    private static final int GRANTS = 3;

    private static final Supplier<PolicyGate> RICH = RefusalTest::rich;
    private static final Supplier<PolicyGate> FULL = RefusalTest::full;
    private static final String RICH_UNTOUCHED = allOf(rich());
    private static final String FULL_UNTOUCHED = mostOf(full());
    private static final String NEW_UNTOUCHED = mostOf(new PolicyGate());

    private RefusalTest() {
    }

    /** A call with one argument that is tried at its edges. */
    private interface Tried {
        void on(PolicyGate x, int value);
    }

    /** A call about a user, an action and a resource. */
    private interface Asked {
        void on(PolicyGate x, int user, int action, int resource);
    }

    public static void main(String[] args) {
        addUser();
        addRole();
        addResource();
        setRole();
        setHolds();
        setHoldsOrder();
        setApart();
        setUser();
        setLabel();
        setWall();
        near();
        far();
        addRule();
        setRule();
        setTerms();
        dropRule();
        setWeighing();
        matches();
        goOn();
        grant();
        revokeAndIsGood();
        askedOfOne();
        counted();
        done();
        who();
        reach();
        isIdle();
        wouldDiffer();
        wouldGain();
        emptyGate();
        Check.end("RefusalTest");
    }

    /**
     * Users 0 and 1 with roles, 0 HAS 0, 1 and 2, of which 2 is apart from 3, which 1 has; walls of one class on 1 and
     * 3, and user 0 has been on 1.
     */
    private static PolicyGate rich() {
        PolicyGate x = new PolicyGate();
        x.addUser(1, 5);
        x.addUser(0, 2);
        x.addUser(3, 255);
        for (int k = 0; k < ROLES; k++) {
            x.addRole();
        }
        x.setHolds(0, 1, true);
        x.setHolds(1, 2, true);
        x.setApart(2, 3);
        x.setRole(0, 0, true);
        x.setRole(1, 3, true);
        x.addResource(0);
        x.addResource(1);
        x.addResource(0);
        x.setLabel(2, 1);
        x.setWall(1, 0, 1);
        x.setWall(3, 0, 2);
        x.addRule(true, 0, 31, 0);
        x.setRule(0, true, 3);
        x.addRule(false, 12 + 2, 2, 2);
        x.setTerms(1, 1, 22, 5);
        x.addRule(true, 12 + 3, 17, 1);
        x.setRule(2, true, 0);
        x.setUser(0, 0, 5);
        x.grant(0, 1, 2, 1, 2, 1000);
        x.grant(1, 2, 2, 1, 1, 500);
        x.grant(0, 2, 0, 0, 0, 700);
        x.revoke(2);
        x.setWeighing(3);
        x.goOn(61);
        x.access(0, 4, 1);
        x.access(0, 4, 3);
        return x;
    }

    /** As much of everything as there can be. */
    private static PolicyGate full() {
        PolicyGate x = new PolicyGate();
        for (int k = 0; k < 12; k++) {
            x.addUser(k % 2, k);
            x.addRole();
        }
        for (int k = 1; k < 24; k++) {
            x.addResource((k - 1) / 2);
        }
        for (int k = 1; k <= 10; k++) {
            x.setApart(0, k);
        }
        for (int k = 0; k < 30; k++) {
            x.addRule(k % 3 > 0, k % 24, 1 + k, k % 24);
        }
        for (int k = 0; k < 30; k++) {
            x.grant(k % 12, (k + 1) % 12, k % 5, k % 24, k % 4, 100 + k);
        }
        x.setRole(0, 0, true);
        x.setRole(11, 10, true);
        return x;
    }

    /** What a gate answers, also when all is told anew and the clock goes on. */
    private static String mostOf(PolicyGate x) {
        StringBuilder all = new StringBuilder();
        all.append(x.digest()).append(' ');
        for (int weighing = 0; weighing < 4; weighing++) {
            all.append(x.setWeighing(weighing)).append(x.digest()).append(' ');
        }
        for (int label = 0; label < 4; label++) {
            all.append(x.setLabel(0, label)).append(x.digest()).append(' ');
        }
        for (int k = 0; k < 12; k++) {
            x.goOn(60);
            all.append(x.digest()).append(' ');
        }
        x.goOn(700);
        return all.append(x.digest()).toString();
    }

    /** All of the rich gate that can be found out; what is asked by telling comes last. */
    private static String allOf(PolicyGate x) {
        StringBuilder all = new StringBuilder();
        x.grant(2, 0, 2, 2, 0, 900);
        x.grant(1, 0, 2, 2, 1, 900);
        all.append(mostOf(x));
        for (int k = 0; k < RESOURCES; k++) {
            all.append(x.setLabel(k, 0)).append(x.setWall(k, -1, 0)).append(' ');
        }
        for (int k = 0; k < USERS; k++) {
            all.append(x.setUser(k, 0, 0)).append(' ');
            for (int role = 0; role < ROLES; role++) {
                all.append(x.setRole(k, role, false)).append(' ');
            }
        }
        for (int k = 0; k < RULES; k++) {
            all.append(x.setRule(k, true, 0)).append(x.setTerms(k, 0, 0, 23)).append(' ');
        }
        for (int role = 0; role < ROLES; role++) {
            for (int other = 0; other < ROLES; other++) {
                if (other != role) {
                    all.append(x.setHolds(role, other, false)).append(' ');
                }
            }
        }
        for (int role = 0; role < ROLES; role++) {
            for (int other = 0; other < role; other++) {
                int one = role;
                int two = other;
                all.append(Check.thrownBy(() -> x.setApart(one, two))).append(' ');
            }
        }
        return all.toString();
    }

    private static void refused(String what, Supplier<PolicyGate> made, String exception, Consumer<PolicyGate> call) {
        PolicyGate x = made.get();
        Check.same(what, Check.thrownBy(() -> call.accept(x)), exception);
        boolean isRich = made == RICH;
        boolean isFull = made == FULL;
        String due = isRich ? RICH_UNTOUCHED : isFull ? FULL_UNTOUCHED : NEW_UNTOUCHED;
        Check.same(what + " changes nothing", isRich ? allOf(x) : mostOf(x), due);
    }

    private static void taken(String what, Supplier<PolicyGate> made, Consumer<PolicyGate> call) {
        PolicyGate x = made.get();
        Check.same(what, Check.thrownBy(() -> call.accept(x)), "nothing");
    }

    /** On the rich gate, the values from first to last are taken and those next to them refused. */
    private static void needs(String what, String exception, int first, int last, Tried call) {
        taken(what + " is " + first, RICH, x -> call.on(x, first));
        taken(what + " is " + last, RICH, x -> call.on(x, last));
        beyond(what, exception, first, last, call);
    }

    /** Far outside are numbers, too, that are one from first to last, if their upper bits are lost. */
    private static void beyond(String what, String exception, int first, int last, Tried call) {
        int[] beyond = {first - 1, last + 1, SMALL, SMALL + last, BIG, -BIG, first + 65536, first - 256};
        for (int value : beyond) {
            refused(what + " is " + value, RICH, exception, x -> call.on(x, value));
        }
        for (int wrapped : new int[] {32, 64, 256}) {
            if (first + wrapped > last) {
                refused(what + " is " + (first + wrapped), RICH, exception, x -> call.on(x, first + wrapped));
            }
        }
    }

    private static void needsUser(String what, Tried call) {
        needs(what + ", the user", OUTSIDE, 0, USERS - 1, call);
    }

    private static void needsRole(String what, Tried call) {
        needs(what + ", the role", OUTSIDE, 0, ROLES - 1, call);
    }

    private static void needsResource(String what, Tried call) {
        needs(what + ", the resource", OUTSIDE, 0, RESOURCES - 1, call);
    }

    private static void needsAction(String what, Tried call) {
        needs(what + ", the action", OUTSIDE, 0, 4, call);
    }

    private static void needsRule(String what, Tried call) {
        needs(what + ", the rule", OUTSIDE, 0, RULES - 1, call);
    }

    private static void addUser() {
        Check.about("Promise 2: IllegalArgumentException if clearance is not 0 to 3");
        needs("clearance", ILLEGAL, 0, 3, (x, v) -> x.addUser(v, 0));
        Check.about("Promise 2: IllegalArgumentException if traits is not 0 to 255");
        needs("traits", ILLEGAL, 0, 255, (x, v) -> x.addUser(0, v));
        Check.about("Promise 2: IllegalStateException if there are 12");
        refused("the thirteenth", FULL, REFUSED, x -> x.addUser(3, 255));
        taken("the twelfth", () -> Gates.gate(11, 0, 1), x -> x.addUser(3, 255));
        Check.about("addUser: the exception that is named first");
        refused("clearance, full", FULL, ILLEGAL, x -> x.addUser(4, 0));
        refused("traits, full", FULL, ILLEGAL, x -> x.addUser(0, 256));
    }

    private static void addRole() {
        Check.about("Promise 3: IllegalStateException if there are 12");
        refused("the thirteenth", FULL, REFUSED, PolicyGate::addRole);
        taken("the twelfth", () -> Gates.gate(0, 11, 1), PolicyGate::addRole);
    }

    private static void addResource() {
        Check.about("Promise 4: IndexOutOfBoundsException if there is no such resource");
        needs("the parent", OUTSIDE, 0, RESOURCES - 1, (x, v) -> x.addResource(v));
        Check.about("Promise 4: IllegalStateException if there are 24");
        refused("the twenty-fifth", FULL, REFUSED, x -> x.addResource(23));
        taken("the twenty-fourth", () -> Gates.gate(0, 0, 23), x -> x.addResource(22));
        Check.about("addResource: the exception that is named first");
        refused("no parent, full", FULL, OUTSIDE, x -> x.addResource(24));
        refused("no parent, full", FULL, OUTSIDE, x -> x.addResource(-1));
    }

    private static void setRole() {
        Check.about("Promise 5: IndexOutOfBoundsException if there is no such user, or role");
        needsUser("given", (x, v) -> x.setRole(v, 4, true));
        needsUser("taken", (x, v) -> x.setRole(v, 4, false));
        needsRole("given", (x, v) -> x.setRole(2, v, true));
        needsRole("taken", (x, v) -> x.setRole(0, v, false));
        Check.about("Promise 5: IllegalStateException if it would HAVE two roles that are APART");
        refused("itself", RICH, REFUSED, x -> x.setRole(1, 2, true));
        refused("along one", RICH, REFUSED, x -> x.setRole(1, 1, true));
        refused("along two", RICH, REFUSED, x -> x.setRole(1, 0, true));
        refused("apart from one that it has along two", RICH, REFUSED, x -> x.setRole(0, 3, true));
        taken("one that it has already", RICH, x -> x.setRole(0, 0, true));
        taken("one apart is taken, not given", RICH, x -> x.setRole(0, 3, false));
        taken("another user", RICH, x -> x.setRole(2, 3, true));
    }

    private static void setHolds() {
        Check.about("Promise 6: IndexOutOfBoundsException if there is no such role");
        needsRole("held", (x, v) -> x.setHolds(v, besides(v), true));
        needsRole("held, the other one", (x, v) -> x.setHolds(besides(v), v, true));
        needsRole("not held", (x, v) -> x.setHolds(v, besides(v), false));
        needsRole("not held, the other one", (x, v) -> x.setHolds(besides(v), v, false));
        Check.about("Promise 6: IllegalArgumentException if both are the same");
        for (int k = 0; k < ROLES; k++) {
            int role = k;
            refused("role " + k, RICH, ILLEGAL, x -> x.setHolds(role, role, true));
            refused("role " + k + ", not held", RICH, ILLEGAL, x -> x.setHolds(role, role, false));
        }
        Check.about("Promise 6: IllegalArgumentException if a role would hold itself along others");
        refused("along one", RICH, ILLEGAL, x -> x.setHolds(1, 0, true));
        refused("along one", RICH, ILLEGAL, x -> x.setHolds(2, 1, true));
        refused("along two", RICH, ILLEGAL, x -> x.setHolds(2, 0, true));
        taken("not held, it is no circle", RICH, x -> x.setHolds(2, 0, false));
        taken("a second way is no circle", RICH, x -> x.setHolds(0, 2, true));
        taken("held already", RICH, x -> x.setHolds(1, 2, true));
        Check.about("Promise 6: IllegalStateException if a user would HAVE two roles that are APART");
        refused("itself", RICH, REFUSED, x -> x.setHolds(3, 2, true));
        refused("the other one holds it", RICH, REFUSED, x -> x.setHolds(3, 1, true));
        refused("the other one holds it along one", RICH, REFUSED, x -> x.setHolds(3, 0, true));
        refused("by a role that it has along two", RICH, REFUSED, x -> x.setHolds(2, 3, true));
        refused("by the first one", RICH, REFUSED, x -> x.setHolds(0, 3, true));
        taken("nobody has the role", RICH, x -> x.setHolds(4, 3, true));
        taken("not held", RICH, x -> x.setHolds(3, 2, false));
        taken("not apart", RICH, x -> x.setHolds(3, 4, true));
    }

    /** The last role, which nobody has; for that one the role before it. */
    private static int besides(int role) {
        return role == ROLES - 1 ? ROLES - 2 : ROLES - 1;
    }

    private static void setHoldsOrder() {
        Check.about("setHolds: the exception that is named first");
        refused("there is none, both are the same", RICH, OUTSIDE, x -> x.setHolds(5, 5, true));
        refused("there is none, both are the same", RICH, OUTSIDE, x -> x.setHolds(-1, -1, false));
        PolicyGate x = Gates.gate(1, 2, 1);
        x.setHolds(0, 1, true);
        x.setApart(0, 1);
        x.setRole(0, 1, true);
        long before = x.digest();
        Check.illegal("a circle, and the user would have both", () -> x.setHolds(1, 0, true));
        Check.same("nothing changed", x.digest(), before);
        Check.same("it does not hold it", x.setHolds(1, 0, false), false);
    }

    private static void setApart() {
        Check.about("Promise 7: IndexOutOfBoundsException if there is no such role");
        needsRole("", (x, v) -> x.setApart(v, besides(v)));
        needsRole("the other one", (x, v) -> x.setApart(besides(v), v));
        Check.about("Promise 7: IllegalArgumentException if both are the same");
        for (int k = 0; k < ROLES; k++) {
            int role = k;
            refused("role " + k, RICH, ILLEGAL, x -> x.setApart(role, role));
        }
        Check.about("Promise 7: IllegalStateException if they are APART already");
        refused("the pair", RICH, REFUSED, x -> x.setApart(2, 3));
        refused("the pair turned round", RICH, REFUSED, x -> x.setApart(3, 2));
        taken("one of the pair", RICH, x -> x.setApart(2, 4));
        Check.about("Promise 7: IllegalStateException if there are 10 pairs");
        refused("the eleventh", FULL, REFUSED, x -> x.setApart(10, 11));
        taken("the tenth", RefusalTest::ninePairs, x -> x.setApart(10, 11));
        Check.about("Promise 7: IllegalStateException if a user HAS both");
        refused("along one", RICH, REFUSED, x -> x.setApart(0, 1));
        refused("along two", RICH, REFUSED, x -> x.setApart(2, 0));
        refused("both along others", RICH, REFUSED, x -> x.setApart(2, 1));
        taken("different users have them", RICH, x -> x.setApart(0, 3));
        Check.about("setApart: the exception that is named first");
        refused("there is none, both are the same", RICH, OUTSIDE, x -> x.setApart(5, 5));
        refused("there is none, full", FULL, OUTSIDE, x -> x.setApart(0, 12));
        refused("the same, full", FULL, ILLEGAL, x -> x.setApart(11, 11));
    }

    private static PolicyGate ninePairs() {
        PolicyGate x = Gates.gate(0, 12, 1);
        for (int k = 1; k < 10; k++) {
            x.setApart(0, k);
        }
        return x;
    }

    private static void setUser() {
        Check.about("Promise 8: IndexOutOfBoundsException if there is no such user");
        needsUser("", (x, v) -> x.setUser(v, 2, 9));
        Check.about("Promise 8: IllegalArgumentException if clearance is not 0 to 3");
        needs("clearance", ILLEGAL, 0, 3, (x, v) -> x.setUser(0, v, 9));
        Check.about("Promise 8: IllegalArgumentException if traits is not 0 to 255");
        needs("traits", ILLEGAL, 0, 255, (x, v) -> x.setUser(0, 3, v));
        Check.about("setUser: the exception that is named first");
        refused("no user, no clearance", RICH, OUTSIDE, x -> x.setUser(USERS, 4, 0));
        refused("no user, no traits", RICH, OUTSIDE, x -> x.setUser(-1, 0, 256));
    }

    private static void setLabel() {
        Check.about("Promise 9: IndexOutOfBoundsException if there is no such resource");
        needsResource("", (x, v) -> x.setLabel(v, 3));
        Check.about("Promise 9: IllegalArgumentException if label is not 0 to 3");
        needs("label", ILLEGAL, 0, 3, (x, v) -> x.setLabel(2, v));
        Check.about("setLabel: the exception that is named first");
        refused("no resource, no label", RICH, OUTSIDE, x -> x.setLabel(RESOURCES, 4));
    }

    private static void setWall() {
        Check.about("Promise 10: IndexOutOfBoundsException if there is no such resource");
        needsResource("", (x, v) -> x.setWall(v, 2, 0));
        needsResource("no wall", (x, v) -> x.setWall(v, -1, 0));
        Check.about("Promise 10: IllegalArgumentException if itsClass is not -1 to 3");
        needs("class", ILLEGAL, -1, 3, (x, v) -> x.setWall(1, v, 0));
        refused("-2, whatever house", RICH, ILLEGAL, x -> x.setWall(1, -2, 9));
        Check.about("Promise 10: IllegalArgumentException if, with a class, house is not 0 to 3");
        for (int k = 0; k < 4; k++) {
            int itsClass = k;
            needs("house in class " + k, ILLEGAL, 0, 3, (x, v) -> x.setWall(1, itsClass, v));
        }
        Check.about("Promise 10: house is not looked at for -1");
        for (int house : new int[] {-1, 4, 32, BIG, SMALL}) {
            taken("house " + house, RICH, x -> x.setWall(1, -1, house));
        }
        Check.about("setWall: the exception that is named first");
        refused("no resource, no class", RICH, OUTSIDE, x -> x.setWall(RESOURCES, 4, 0));
        refused("no resource, no house", RICH, OUTSIDE, x -> x.setWall(-1, 0, 4));
    }

    private static void near() {
        Check.about("Promise 14: IndexOutOfBoundsException if there is no such user, or role");
        needsUser("", (x, v) -> x.near(v, 0));
        needsRole("", (x, v) -> x.near(0, v));
    }

    private static void far() {
        Check.about("Promise 15: IndexOutOfBoundsException if there is no such resource");
        needsResource("", (x, v) -> x.far(v, 0));
        needsResource("above", (x, v) -> x.far(0, v));
        refused("the same, outside", RICH, OUTSIDE, x -> x.far(RESOURCES, RESOURCES));
    }

    private static void addRule() {
        Check.about("Promise 16: IndexOutOfBoundsException if there is no such user, or role");
        needs("who, a user", OUTSIDE, 0, USERS - 1, (x, v) -> x.addRule(false, v, 31, 0));
        needs("who, a role", OUTSIDE, 12, 12 + ROLES - 1, (x, v) -> x.addRule(false, v, 31, 0));
        for (int who = USERS; who < 12; who++) {
            int nobody = who;
            refused("who " + who, RICH, OUTSIDE, x -> x.addRule(false, nobody, 31, 0));
        }
        for (int who = 0; who < 24; who++) {
            int one = who;
            refused("on a full gate who " + who + " is there", FULL, REFUSED, x -> x.addRule(false, one, 31, 0));
        }
        refused("who 24", FULL, OUTSIDE, x -> x.addRule(false, 24, 31, 0));
        refused("who -1", FULL, OUTSIDE, x -> x.addRule(false, -1, 31, 0));
        Check.about("Promise 16: IndexOutOfBoundsException if there is no such resource");
        needsResource("", (x, v) -> x.addRule(false, 0, 31, v));
        Check.about("Promise 16: IllegalArgumentException if actions is not 1 to 31");
        needs("actions", ILLEGAL, 1, 31, (x, v) -> x.addRule(false, 0, v, 0));
        Check.about("Promise 16: IllegalStateException if there are 30");
        refused("the thirty-first", FULL, REFUSED, x -> x.addRule(true, 0, 1, 0));
        taken("the thirtieth", () -> withRules(29), x -> x.addRule(true, 0, 1, 0));
        Check.about("addRule: the exception that is named first");
        refused("nobody, no actions", RICH, OUTSIDE, x -> x.addRule(true, USERS, 0, 0));
        refused("no resource, no actions", RICH, OUTSIDE, x -> x.addRule(true, 0, 32, RESOURCES));
        refused("no resource, full", FULL, OUTSIDE, x -> x.addRule(true, 0, 1, 24));
        refused("no actions, full", FULL, ILLEGAL, x -> x.addRule(true, 0, 0, 0));
    }

    private static void setRule() {
        Check.about("Promise 17: IndexOutOfBoundsException if there is no such RULE");
        needsRule("", (x, v) -> x.setRule(v, false, 7));
        Check.about("Promise 17: IllegalArgumentException if rank is not 0 to 9");
        needs("rank", ILLEGAL, 0, 9, (x, v) -> x.setRule(0, false, v));
        Check.about("setRule: the exception that is named first");
        refused("no rule, no rank", RICH, OUTSIDE, x -> x.setRule(RULES, false, 10));
    }

    private static void setTerms() {
        Check.about("Promise 18: IndexOutOfBoundsException if there is no such RULE");
        needsRule("", (x, v) -> x.setTerms(v, 128, 3, 4));
        Check.about("Promise 18: IllegalArgumentException if traits is not 0 to 255");
        needs("traits", ILLEGAL, 0, 255, (x, v) -> x.setTerms(0, v, 3, 4));
        Check.about("Promise 18: IllegalArgumentException if an hour is not 0 to 23");
        needs("first", ILLEGAL, 0, 23, (x, v) -> x.setTerms(0, 128, v, 4));
        needs("last", ILLEGAL, 0, 23, (x, v) -> x.setTerms(0, 128, 3, v));
        Check.about("setTerms: the exception that is named first");
        refused("no rule, no traits", RICH, OUTSIDE, x -> x.setTerms(RULES, 256, 0, 0));
        refused("no rule, no hour", RICH, OUTSIDE, x -> x.setTerms(-1, 0, 24, 0));
    }

    private static void dropRule() {
        Check.about("Promise 19: IndexOutOfBoundsException if there is no such RULE");
        needsRule("", (x, v) -> x.dropRule(v));
    }

    private static void setWeighing() {
        Check.about("Promise 21: IllegalArgumentException if it is none of these");
        needs("weighing", ILLEGAL, 0, 3, (x, v) -> x.setWeighing(v));
    }

    private static void matches() {
        Check.about("Promise 22: IndexOutOfBoundsException if there is no such RULE, user, action or resource");
        needsRule("", (x, v) -> x.matches(v, 0, 0, 0));
        needsAsked("matches", (x, user, action, resource) -> x.matches(0, user, action, resource));
    }

    private static void needsAsked(String what, Asked call) {
        needsUser(what, (x, v) -> call.on(x, v, 0, 1));
        needsAction(what, (x, v) -> call.on(x, 0, v, 1));
        needsResource(what, (x, v) -> call.on(x, 0, 0, v));
    }

    private static void goOn() {
        Check.about("Promise 23: IllegalArgumentException if minutes is not 1 to 10000");
        needs("minutes", ILLEGAL, 1, 10000, (x, v) -> x.goOn(v));
    }

    private static void grant() {
        Check.about("Promise 25: IndexOutOfBoundsException if there is no such user, action or resource");
        needsUser("from", (x, v) -> x.grant(v, v == 0 ? 1 : 0, 0, 0, 0, 9));
        needsUser("to", (x, v) -> x.grant(v == 0 ? 1 : 0, v, 0, 0, 0, 9));
        needsAction("", (x, v) -> x.grant(0, 1, v, 0, 0, 9));
        needsResource("", (x, v) -> x.grant(0, 1, 0, v, 0, 9));
        Check.about("Promise 25: IllegalArgumentException if both are the same");
        for (int k = 0; k < USERS; k++) {
            int user = k;
            refused("user " + k, RICH, ILLEGAL, x -> x.grant(user, user, 0, 0, 0, 9));
        }
        Check.about("Promise 25: IllegalArgumentException if hands is not 0 to 3");
        needs("hands", ILLEGAL, 0, 3, (x, v) -> x.grant(0, 1, 0, 0, v, 9));
        Check.about("Promise 25: IllegalArgumentException if minutes is not 1 to 10000");
        needs("minutes", ILLEGAL, 1, 10000, (x, v) -> x.grant(0, 1, 0, 0, 0, v));
        Check.about("Promise 25: IllegalStateException if there are 30");
        refused("the thirty-first", FULL, REFUSED, x -> x.grant(0, 1, 0, 0, 0, 9));
        taken("the thirtieth", () -> withGrants(29), x -> x.grant(0, 1, 0, 0, 0, 9));
        Check.about("grant: the exception that is named first");
        refused("no users, the same", RICH, OUTSIDE, x -> x.grant(USERS, USERS, 0, 0, 0, 9));
        refused("no action, the same", RICH, OUTSIDE, x -> x.grant(0, 0, 5, 0, 0, 9));
        refused("no resource, no hands", RICH, OUTSIDE, x -> x.grant(0, 1, 0, RESOURCES, 4, 9));
        refused("no resource, full", FULL, OUTSIDE, x -> x.grant(0, 1, 0, 24, 0, 9));
        refused("the same, full", FULL, ILLEGAL, x -> x.grant(1, 1, 0, 0, 0, 9));
        refused("no hands, full", FULL, ILLEGAL, x -> x.grant(0, 1, 0, 0, 4, 9));
        refused("no minutes, full", FULL, ILLEGAL, x -> x.grant(0, 1, 0, 0, 0, 0));
    }

    private static void revokeAndIsGood() {
        Check.about("Promise 26: IndexOutOfBoundsException if there is no such GRANT");
        needs("the grant", OUTSIDE, 0, GRANTS - 1, (x, v) -> x.revoke(v));
        Check.about("Promise 28: IndexOutOfBoundsException if there is no such GRANT");
        needs("the grant", OUTSIDE, 0, GRANTS - 1, (x, v) -> x.isGood(v));
    }

    private static void askedOfOne() {
        Check.about("Promise 29: IndexOutOfBoundsException if there is no such user, action or resource");
        needsAsked("decide", PolicyGate::decide);
        Check.about("Promise 30: IndexOutOfBoundsException if there is no such user, action or resource");
        needsAsked("why", PolicyGate::why);
        Check.about("Promise 31: IndexOutOfBoundsException if there is no such user, action or resource");
        needsAsked("access", PolicyGate::access);
        Check.about("Promise 36: IndexOutOfBoundsException if there is no such user, action or resource");
        needsAsked("rolesNeeded", PolicyGate::rolesNeeded);
    }

    private static void counted() {
        Check.about("Promise 32: IllegalArgumentException if decision is not 0 to 5");
        needs("decision", ILLEGAL, 0, 5, (x, v) -> x.counted(v));
    }

    private static void done() {
        Check.about("Promise 33: IndexOutOfBoundsException if there is no such user, or resource");
        needsUser("", (x, v) -> x.done(v, 0));
        needsResource("", (x, v) -> x.done(0, v));
    }

    private static void who() {
        Check.about("Promise 34: IndexOutOfBoundsException if there is no such action, or resource");
        needsAction("", (x, v) -> x.who(v, 0));
        needsResource("", (x, v) -> x.who(0, v));
    }

    private static void reach() {
        Check.about("Promise 35: IndexOutOfBoundsException if there is no such user, or action");
        needsUser("", (x, v) -> x.reach(v, 0));
        needsAction("", (x, v) -> x.reach(0, v));
    }

    private static void isIdle() {
        Check.about("Promise 38: IndexOutOfBoundsException if there is no such RULE");
        needsRule("", (x, v) -> x.isIdle(v));
    }

    private static void wouldDiffer() {
        Check.about("Promise 39: IllegalArgumentException if it is none");
        needs("weighing", ILLEGAL, 0, 3, (x, v) -> x.wouldDiffer(v));
    }

    private static void wouldGain() {
        Check.about("Promise 40: IndexOutOfBoundsException if there is no such user, or role");
        needsUser("", (x, v) -> x.wouldGain(v, 0));
        needsRole("", (x, v) -> x.wouldGain(0, v));
    }

    /** On a new gate there is the root and nothing else: number 0 of all others is refused. */
    private static void emptyGate() {
        Check.about("Promise 1: a gate with the root alone");
        Supplier<PolicyGate> made = PolicyGate::new;
        refused("setRole", made, OUTSIDE, x -> x.setRole(0, 0, true));
        refused("setHolds", made, OUTSIDE, x -> x.setHolds(0, 1, true));
        refused("setApart", made, OUTSIDE, x -> x.setApart(0, 1));
        refused("setUser", made, OUTSIDE, x -> x.setUser(0, 0, 0));
        refused("setLabel", made, OUTSIDE, x -> x.setLabel(1, 0));
        refused("setWall", made, OUTSIDE, x -> x.setWall(1, 0, 0));
        refused("addResource", made, OUTSIDE, x -> x.addResource(1));
        refused("near", made, OUTSIDE, x -> x.near(0, 0));
        refused("far", made, OUTSIDE, x -> x.far(1, 0));
        refused("far", made, OUTSIDE, x -> x.far(0, 1));
        refused("addRule for a user", made, OUTSIDE, x -> x.addRule(true, 0, 1, 0));
        refused("addRule for a role", made, OUTSIDE, x -> x.addRule(true, 12, 1, 0));
        refused("setRule", made, OUTSIDE, x -> x.setRule(0, true, 0));
        refused("setTerms", made, OUTSIDE, x -> x.setTerms(0, 0, 0, 0));
        refused("dropRule", made, OUTSIDE, x -> x.dropRule(0));
        refused("matches", made, OUTSIDE, x -> x.matches(0, 0, 0, 0));
        refused("grant", made, OUTSIDE, x -> x.grant(0, 1, 0, 0, 0, 1));
        refused("revoke", made, OUTSIDE, x -> x.revoke(0));
        refused("isGood", made, OUTSIDE, x -> x.isGood(0));
        refused("decide", made, OUTSIDE, x -> x.decide(0, 0, 0));
        refused("why", made, OUTSIDE, x -> x.why(0, 0, 0));
        refused("access", made, OUTSIDE, x -> x.access(0, 0, 0));
        refused("done", made, OUTSIDE, x -> x.done(0, 0));
        refused("reach", made, OUTSIDE, x -> x.reach(0, 0));
        refused("rolesNeeded", made, OUTSIDE, x -> x.rolesNeeded(0, 0, 0));
        refused("isIdle", made, OUTSIDE, x -> x.isIdle(0));
        refused("wouldGain", made, OUTSIDE, x -> x.wouldGain(0, 0));
    }

    private static PolicyGate withRules(int rules) {
        PolicyGate x = Gates.gate(1, 0, 1);
        for (int k = 0; k < rules; k++) {
            x.addRule(false, 0, 1, 0);
        }
        return x;
    }

    private static PolicyGate withGrants(int grants) {
        PolicyGate x = Gates.gate(2, 0, 1);
        for (int k = 0; k < grants; k++) {
            x.grant(0, 1, 0, 0, 0, 1);
        }
        return x;
    }
}
