/** For each promise of the document its ordinary inputs, the edges that it names, and wrong inputs. */
public final class PromiseTest {
    private static final int READ = 0;
    private static final int WRITE = 1;
    private static final int MAKE = 2;
    private static final int DROP = 3;
    private static final int SHARE = 4;
    private static final int ALL = 31;
    private static final int BIG = Integer.MAX_VALUE;
    private static final int SMALL = Integer.MIN_VALUE;

    /** What is no user, role, resource, rule or grant of a gate that is not full. */
    private static final int[] NOBODY = {-1, 11, 12, 24, 30, 31, 32, BIG, SMALL};

    private PromiseTest() {
    }

    public static void main(String[] args) {
        newGate();
        addUser();
        addRole();
        addResource();
        setRole();
        setHolds();
        setHoldsWithApart();
        setApart();
        setUser();
        setLabel();
        setWall();
        howMany();
        near();
        far();
        addRule();
        setRule();
        setTerms();
        dropRule();
        setWeighing();
        matches();
        goOnAndClock();
        grant();
        revoke();
        isGoodByRight();
        isGoodPassedOn();
        decideByLabels();
        decideByWalls();
        decideByDenyAndAllow();
        decideByNearest();
        decideByRank();
        decideByGrants();
        why();
        access();
        counted();
        done();
        who();
        reach();
        rolesNeeded();
        rolesNeededWithApart();
        rolesNeededForGrants();
        contradictions();
        isIdle();
        wouldDiffer();
        wouldGain();
        openness();
        digest();
        askingChangesNothing();
        Check.end("PromiseTest");
    }

    // Promise 1
    private static void newGate() {
        PolicyGate x = new PolicyGate();
        Check.same("new: users", x.users(), 0);
        Check.same("new: roles", x.roles(), 0);
        Check.same("new: resources", x.resources(), 1);
        Check.same("new: rules", x.rules(), 0);
        Check.same("new: grants", x.grants(), 0);
        Check.same("new: clock", x.clock(), 0);
        Check.same("new: weighing", x.setWeighing(0), 0);
        Check.same("new: label", x.setLabel(0, 0), 0);
        Check.same("new: wall", x.setWall(0, -1, 0), false);
        PolicyGate other = new PolicyGate();
        other.addUser(0, 0);
        Check.same("new: gates are apart", x.users(), 0);
    }

    // Promise 2
    private static void addUser() {
        PolicyGate x = Gates.gate(0, 12, 1);
        Check.illegal("clearance -1", () -> x.addUser(-1, 0));
        Check.illegal("clearance 4", () -> x.addUser(4, 0));
        Check.illegal("traits -1", () -> x.addUser(0, -1));
        Check.illegal("traits 256", () -> x.addUser(0, 256));
        Check.illegal("traits far out", () -> x.addUser(SMALL, BIG));
        Check.same("nothing was added", x.users(), 0);
        for (int k = 0; k < 12; k++) {
            Check.same("user", x.addUser(k % 4, k == 0 ? 255 : k), k);
            for (int role = 0; role < 12; role++) {
                Check.same("a new user has no role", x.near(k, role), -1);
            }
        }
        Check.same("its traits", x.setUser(0, 0, 0), 255);
        Check.same("its traits", x.setUser(11, 0, 0), 11);
        Check.illegal("first the arguments", () -> x.addUser(4, 0));
        Check.refused("thirteen", () -> x.addUser(3, 255));
        Check.same("twelve", x.users(), 12);
        PolicyGate y = new PolicyGate();
        y.addUser(2, 0);
        y.setLabel(0, 3);
        Check.same("its clearance", y.decide(0, READ, 0), 4);
        y.setLabel(0, 2);
        Check.same("its clearance", y.decide(0, READ, 0), 0);
    }

    // Promise 3
    private static void addRole() {
        PolicyGate x = Gates.gate(1, 0, 1);
        for (int k = 0; k < 12; k++) {
            Check.same("role", x.addRole(), k);
        }
        Check.refused("thirteen", x::addRole);
        Check.same("twelve", x.roles(), 12);
        x.setRole(0, 0, true);
        for (int k = 1; k < 12; k++) {
            Check.same("a new role holds none", x.near(0, k), -1);
        }
    }

    // Promise 4
    private static void addResource() {
        PolicyGate x = new PolicyGate();
        for (int bad : new int[] {-1, 1, 23, 24, 32, BIG, SMALL}) {
            Check.outside("parent " + bad, () -> x.addResource(bad));
        }
        for (int k = 1; k < 24; k++) {
            Check.same("resource", x.addResource(k == 5 ? 0 : k - 1), k);
        }
        Check.outside("first the parent", () -> x.addResource(24));
        Check.refused("twenty-five", () -> x.addResource(0));
        Check.same("twenty-four", x.resources(), 24);
        Check.same("its parent", x.far(4, 0), 4);
        Check.same("its parent", x.far(5, 0), 1);
        Check.same("its parent", x.far(23, 5), 18);
        Check.same("no label", x.setLabel(23, 1), 0);
        Check.same("no wall", x.setWall(23, 0, 0), false);
    }

    // Promise 5
    private static void setRole() {
        PolicyGate x = Gates.gate(2, 3, 1);
        for (int bad : NOBODY) {
            Check.outside("user " + bad, () -> x.setRole(bad, 0, true));
            Check.outside("role " + bad, () -> x.setRole(0, bad, true));
            Check.outside("role " + bad, () -> x.setRole(0, bad, false));
        }
        Check.same("given", x.setRole(0, 1, true), false);
        Check.same("given again", x.setRole(0, 1, true), true);
        Check.same("has it", x.near(0, 1), 1);
        Check.same("the other has not", x.near(1, 1), -1);
        Check.same("taken", x.setRole(0, 1, false), true);
        Check.same("taken again", x.setRole(0, 1, false), false);
        Check.same("has it no more", x.near(0, 1), -1);

        x.setHolds(1, 2, true);
        x.setApart(0, 2);
        x.setRole(0, 1, true);
        Check.refused("apart along another", () -> x.setRole(0, 0, true));
        Check.same("it was not given", x.near(0, 0), -1);
        Check.same("giving what it has is free", x.setRole(0, 1, true), true);
        Check.same("taking is free", x.setRole(0, 0, false), false);
        x.setRole(0, 1, false);
        Check.same("now it may have it", x.setRole(0, 0, true), false);
        Check.refused("apart the other way round", () -> x.setRole(0, 1, true));
    }

    // Promise 6
    private static void setHolds() {
        PolicyGate x = Gates.gate(1, 4, 1);
        for (int bad : NOBODY) {
            Check.outside("role " + bad, () -> x.setHolds(bad, 0, true));
            Check.outside("other " + bad, () -> x.setHolds(0, bad, true));
            Check.outside("same " + bad, () -> x.setHolds(bad, bad, true));
        }
        Check.illegal("the same", () -> x.setHolds(1, 1, true));
        Check.illegal("the same, not held", () -> x.setHolds(1, 1, false));
        Check.same("held", x.setHolds(0, 1, true), false);
        Check.same("held again", x.setHolds(0, 1, true), true);
        Check.same("held", x.setHolds(1, 2, true), false);
        Check.same("held", x.setHolds(2, 3, true), false);
        Check.illegal("itself along one", () -> x.setHolds(1, 0, true));
        Check.illegal("itself along three", () -> x.setHolds(3, 0, true));
        Check.same("not to hold it is free", x.setHolds(3, 0, false), false);
        x.setRole(0, 0, true);
        Check.same("along three", x.near(0, 3), 4);
        Check.same("a shorter way", x.setHolds(0, 3, true), false);
        Check.same("the shorter way", x.near(0, 3), 2);
        Check.same("not any more", x.setHolds(0, 3, false), true);
        Check.same("not any more", x.setHolds(1, 2, false), true);
        Check.same("not along it", x.near(0, 3), -1);
        Check.same("now it may", x.setHolds(3, 0, true), false);
    }

    private static void setHoldsWithApart() {
        PolicyGate x = Gates.gate(2, 5, 1);
        x.setHolds(0, 1, true);
        x.setHolds(2, 3, true);
        x.setApart(3, 4);
        x.setRole(0, 0, true);
        x.setRole(0, 4, true);
        Check.refused("a user would have both", () -> x.setHolds(1, 2, true));
        Check.same("it does not hold it", x.near(0, 3), -1);
        Check.illegal("first the circle", () -> x.setHolds(1, 0, true));
        x.setRole(0, 4, false);
        Check.same("no user has the other", x.setHolds(1, 2, true), false);
        Check.refused("now it has the one", () -> x.setRole(0, 4, true));
        Check.refused("it would have both along one", () -> x.setHolds(3, 4, true));
        x.setRole(0, 0, false);
        Check.same("without users it is free", x.setHolds(3, 4, true), false);
    }

    // Promise 7
    private static void setApart() {
        PolicyGate x = Gates.gate(1, 8, 1);
        for (int bad : NOBODY) {
            Check.outside("role " + bad, () -> x.setApart(bad, 0));
            Check.outside("other " + bad, () -> x.setApart(0, bad));
            Check.outside("same " + bad, () -> x.setApart(bad, bad));
        }
        Check.illegal("the same", () -> x.setApart(0, 0));
        Check.same("a pair", x.setApart(0, 1), 1);
        Check.refused("already", () -> x.setApart(0, 1));
        Check.refused("already, turned round", () -> x.setApart(1, 0));
        x.setHolds(2, 3, true);
        x.setRole(0, 2, true);
        Check.refused("a user has both", () -> x.setApart(2, 3));
        Check.refused("a user has both", () -> x.setApart(3, 2));
        x.setRole(0, 2, false);
        Check.same("no user has both", x.setApart(3, 2), 2);
        Check.refused("a role that holds the other", () -> x.setRole(0, 2, true));
        for (int k = 2; k < 8; k++) {
            Check.same("a pair", x.setApart(0, k), k + 1);
        }
        Check.same("a pair", x.setApart(1, 2), 9);
        Check.same("a pair", x.setApart(1, 3), 10);
        Check.refused("eleven", () -> x.setApart(1, 4));
        Check.illegal("first the arguments", () -> x.setApart(4, 4));
        x.setRole(0, 1, true);
        Check.same("the eleventh was not made", x.setRole(0, 4, true), false);
    }

    // Promise 8
    private static void setUser() {
        PolicyGate x = Gates.gate(2, 1, 1);
        for (int bad : NOBODY) {
            Check.outside("user " + bad, () -> x.setUser(bad, 0, 0));
        }
        Check.outside("first the user", () -> x.setUser(2, 4, 256));
        Check.illegal("clearance", () -> x.setUser(0, -1, 0));
        Check.illegal("clearance", () -> x.setUser(0, 4, 0));
        Check.illegal("traits", () -> x.setUser(0, 0, -1));
        Check.illegal("traits", () -> x.setUser(0, 0, 256));
        x.setRole(0, 0, true);
        Check.same("before", x.setUser(0, 3, 255), 0);
        Check.same("before", x.setUser(0, 1, 7), 255);
        Check.same("the other", x.setUser(1, 0, 0), 0);
        Check.same("its roles stay", x.near(0, 0), 1);
        x.setLabel(0, 2);
        Check.same("its clearance", x.decide(0, READ, 0), 4);
        x.setUser(0, 2, 7);
        Check.same("its clearance", x.decide(0, READ, 0), 0);
        x.addRule(true, 0, 1, 0);
        x.setTerms(0, 8, 0, 23);
        Check.same("its traits", x.matches(0, 0, READ, 0), false);
        x.setUser(0, 2, 8);
        Check.same("its traits", x.matches(0, 0, READ, 0), true);
    }

    // Promise 9
    private static void setLabel() {
        PolicyGate x = Gates.gate(1, 0, 2);
        for (int bad : NOBODY) {
            Check.outside("resource " + bad, () -> x.setLabel(bad, 0));
        }
        Check.outside("first the resource", () -> x.setLabel(2, 4));
        Check.illegal("label -1", () -> x.setLabel(0, -1));
        Check.illegal("label 4", () -> x.setLabel(0, 4));
        Check.same("before", x.setLabel(0, 3), 0);
        Check.same("before", x.setLabel(0, 1), 3);
        Check.same("beneath it not", x.setLabel(1, 0), 0);
        Check.same("the label", x.decide(0, READ, 0), 4);
        Check.same("no label", x.decide(0, READ, 1), 0);
    }

    // Promise 10
    private static void setWall() {
        PolicyGate x = Gates.gate(1, 0, 2);
        for (int bad : NOBODY) {
            Check.outside("resource " + bad, () -> x.setWall(bad, 0, 0));
        }
        Check.outside("first the resource", () -> x.setWall(2, 9, 9));
        for (int bad : new int[] {-2, 4, BIG, SMALL}) {
            Check.illegal("class " + bad, () -> x.setWall(0, bad, 0));
        }
        for (int bad : new int[] {-1, 4, BIG, SMALL}) {
            Check.illegal("house " + bad, () -> x.setWall(0, 0, bad));
        }
        Check.same("none, any house", x.setWall(0, -1, 77), false);
        Check.same("a wall", x.setWall(0, 3, 3), false);
        Check.same("another", x.setWall(0, 0, 0), true);
        Check.same("beneath it none", x.setWall(1, -1, SMALL), false);
        Check.same("none", x.setWall(0, -1, 0), true);
        Check.same("there was none", x.setWall(0, 0, 0), false);
    }

    // Promises 11, 12, 13, 20 and 27
    private static void howMany() {
        PolicyGate x = new PolicyGate();
        for (int k = 1; k <= 3; k++) {
            x.addUser(0, 0);
            Check.same("users", x.users(), k);
        }
        for (int k = 1; k <= 4; k++) {
            x.addRole();
            Check.same("roles", x.roles(), k);
        }
        for (int k = 2; k <= 5; k++) {
            x.addResource(0);
            Check.same("resources", x.resources(), k);
        }
        for (int k = 1; k <= 6; k++) {
            x.addRule(true, 0, 1, 0);
            Check.same("rules", x.rules(), k);
        }
        for (int k = 1; k <= 7; k++) {
            x.grant(0, 1, 0, 0, 0, 1);
            Check.same("grants", x.grants(), k);
        }
        x.revoke(0);
        x.goOn(1);
        Check.same("grants, all ended", x.grants(), 7);
        x.dropRule(3);
        Check.same("rules", x.rules(), 5);
        Check.same("users", x.users(), 3);
        Check.same("roles", x.roles(), 4);
        Check.same("resources", x.resources(), 5);
    }

    // Promise 14
    private static void near() {
        PolicyGate x = Gates.gate(2, 12, 1);
        for (int bad : new int[] {-1, 2, 12, BIG, SMALL}) {
            Check.outside("user " + bad, () -> x.near(bad, 0));
        }
        for (int bad : new int[] {-1, 12, 24, BIG, SMALL}) {
            Check.outside("role " + bad, () -> x.near(0, bad));
        }
        for (int k = 1; k < 12; k++) {
            x.setHolds(k - 1, k, true);
        }
        x.setRole(0, 0, true);
        for (int k = 0; k < 12; k++) {
            Check.same("near along a chain", x.near(0, k), k + 1);
            Check.same("the other has none", x.near(1, k), -1);
        }
        x.setRole(0, 6, true);
        Check.same("the least counts", x.near(0, 5), 6);
        Check.same("the least counts", x.near(0, 6), 1);
        Check.same("the least counts", x.near(0, 11), 6);
        x.setHolds(1, 10, true);
        Check.same("the least counts", x.near(0, 10), 3);
        Check.same("the least counts", x.near(0, 11), 4);
        x.setRole(1, 11, true);
        Check.same("not upwards", x.near(1, 10), -1);
    }

    // Promise 15
    private static void far() {
        PolicyGate x = Gates.gate(0, 0, 4);
        x.addResource(1);
        for (int bad : new int[] {-1, 5, 24, 32, BIG, SMALL}) {
            Check.outside("resource " + bad, () -> x.far(bad, 0));
            Check.outside("above " + bad, () -> x.far(0, bad));
        }
        Check.same("itself", x.far(3, 3), 0);
        Check.same("up", x.far(3, 2), 1);
        Check.same("up", x.far(3, 0), 3);
        Check.same("down", x.far(0, 3), -1);
        Check.same("beside", x.far(4, 2), -1);
        Check.same("beside", x.far(2, 4), -1);
        Check.same("up", x.far(4, 0), 2);
    }

    // Promise 16
    private static void addRule() {
        PolicyGate x = Gates.gate(2, 3, 2);
        for (int bad : new int[] {-1, 2, 11, 15, 23, 24, BIG, SMALL}) {
            Check.outside("who " + bad, () -> x.addRule(true, bad, 1, 0));
        }
        for (int bad : new int[] {-1, 2, 24, BIG, SMALL}) {
            Check.outside("resource " + bad, () -> x.addRule(true, 0, 1, bad));
        }
        for (int bad : new int[] {-1, 0, 32, BIG, SMALL}) {
            Check.illegal("actions " + bad, () -> x.addRule(true, 0, bad, 0));
        }
        Check.outside("first who", () -> x.addRule(true, 2, 0, 0));
        Check.outside("first the resource", () -> x.addRule(true, 0, 0, 2));
        Check.same("nothing was added", x.rules(), 0);
        Check.same("for a user", x.addRule(true, 1, 1, 0), 0);
        Check.same("for a role", x.addRule(false, 14, 31, 1), 1);
        Check.same("its rank", x.setRule(0, false, 0), 0);
        Check.same("its traits", x.setTerms(0, 0, 0, 23), 0);
        Check.same("it is not deep", x.matches(0, 1, READ, 1), false);
        for (int hour = 0; hour < 24; hour++) {
            Check.same("it holds in all hours", x.matches(0, 1, READ, 0), true);
            x.goOn(60);
        }
        x.setRole(0, 2, true);
        Check.same("it allows", x.decide(1, READ, 0), 1);
        Check.same("it denies", x.decide(0, SHARE, 1), 2);
        for (int k = 2; k < 30; k++) {
            Check.same("rule", x.addRule(true, 0, 1, 0), k);
        }
        Check.refused("thirty-one", () -> x.addRule(true, 0, 1, 0));
        Check.illegal("first the arguments", () -> x.addRule(true, 0, 0, 0));
        Check.same("thirty", x.rules(), 30);
        Check.same("the thirtieth counts", x.matches(29, 0, READ, 0), true);
        x.setRule(29, true, 9);
        x.setTerms(29, 255, 1, 2);
        x.dropRule(29);
        Check.same("a new one in its place", x.addRule(true, 0, 1, 0), 29);
        Check.same("is as new: hours", x.matches(29, 0, READ, 0), true);
        Check.same("is as new: not deep", x.matches(29, 0, READ, 1), false);
        Check.same("is as new: rank", x.setRule(29, false, 0), 0);
        Check.same("is as new: traits", x.setTerms(29, 0, 0, 23), 0);
    }

    // Promise 17
    private static void setRule() {
        PolicyGate x = Gates.gate(1, 0, 3);
        x.addRule(true, 0, 1, 1);
        for (int bad : new int[] {-1, 1, 30, BIG, SMALL}) {
            Check.outside("rule " + bad, () -> x.setRule(bad, true, 0));
        }
        Check.outside("first the rule", () -> x.setRule(1, true, 10));
        Check.illegal("rank", () -> x.setRule(0, true, 10));
        Check.illegal("rank", () -> x.setRule(0, true, -1));
        Check.same("not deep yet", x.matches(0, 0, READ, 2), false);
        Check.same("before", x.setRule(0, true, 9), 0);
        Check.same("deep", x.matches(0, 0, READ, 2), true);
        Check.same("not upwards", x.matches(0, 0, READ, 0), false);
        Check.same("before", x.setRule(0, false, 4), 9);
        Check.same("deep no more", x.matches(0, 0, READ, 2), false);
        Check.same("its own", x.matches(0, 0, READ, 1), true);
    }

    // Promise 18
    private static void setTerms() {
        PolicyGate x = Gates.gate(1, 0, 1);
        x.addRule(true, 0, 1, 0);
        for (int bad : new int[] {-1, 1, 30, BIG, SMALL}) {
            Check.outside("rule " + bad, () -> x.setTerms(bad, 0, 0, 0));
        }
        Check.outside("first the rule", () -> x.setTerms(1, 256, 0, 0));
        for (int bad : new int[] {-1, 256, BIG, SMALL}) {
            Check.illegal("traits " + bad, () -> x.setTerms(0, bad, 0, 0));
        }
        for (int bad : new int[] {-1, 24, BIG, SMALL}) {
            Check.illegal("first " + bad, () -> x.setTerms(0, 0, bad, 0));
            Check.illegal("last " + bad, () -> x.setTerms(0, 0, 0, bad));
        }
        Check.same("before", x.setTerms(0, 255, 0, 23), 0);
        Check.same("before", x.setTerms(0, 5, 23, 0), 255);
        Check.same("before", x.setTerms(0, 0, 0, 0), 5);
    }

    // Promise 19
    private static void dropRule() {
        PolicyGate x = Gates.gate(3, 1, 2);
        for (int bad : new int[] {-1, 0, 30, BIG, SMALL}) {
            Check.outside("rule " + bad, () -> x.dropRule(bad));
        }
        x.addRule(true, 0, 1, 0);
        x.addRule(false, 1, 2, 1);
        x.addRule(true, 12, 4, 0);
        x.setRule(2, true, 7);
        x.setTerms(2, 3, 5, 4);
        x.addRule(false, 2, 8, 1);
        x.setRole(2, 0, true);
        x.setUser(2, 0, 3);
        Check.same("dropped", x.dropRule(1), 3);
        Check.same("the one before it stays", x.matches(0, 0, READ, 0), true);
        Check.same("one less", x.matches(1, 2, MAKE, 1), true);
        Check.same("one less: it allows", x.decide(2, MAKE, 1), 1);
        Check.same("one less", x.why(2, MAKE, 0), 1);
        Check.same("one less", x.why(2, DROP, 1), 2);
        Check.same("one less: it denies", x.decide(2, DROP, 1), 2);
        Check.same("its rank goes with it", x.setRule(1, true, 7), 7);
        Check.same("its traits go with it", x.setTerms(1, 3, 5, 5), 3);
        Check.same("its hours", x.matches(1, 2, MAKE, 1), false);
        Check.same("the dropped one is gone", x.decide(1, WRITE, 1), 0);
        Check.outside("three are left", () -> x.dropRule(3));
        Check.same("the last", x.dropRule(2), 2);
        Check.same("the first", x.dropRule(0), 1);
        Check.same("the only one", x.dropRule(0), 0);
    }

    // Promise 21
    private static void setWeighing() {
        PolicyGate x = Gates.gate(1, 0, 1);
        for (int bad : new int[] {-1, 4, BIG, SMALL}) {
            Check.illegal("weighing " + bad, () -> x.setWeighing(bad));
        }
        x.addRule(false, 0, 1, 0);
        x.addRule(true, 0, 1, 0);
        Check.same("DENY at first", x.decide(0, READ, 0), 2);
        Check.same("before", x.setWeighing(1), 0);
        Check.same("ALLOW", x.decide(0, READ, 0), 1);
        Check.same("before", x.setWeighing(2), 1);
        Check.same("NEAREST", x.decide(0, READ, 0), 2);
        Check.same("before", x.setWeighing(3), 2);
        Check.same("before", x.setWeighing(3), 3);
        x.setRule(1, false, 1);
        Check.same("RANK", x.decide(0, READ, 0), 1);
    }

    // Promise 22
    private static void matches() {
        PolicyGate x = Gates.gate(3, 3, 3);
        x.addRule(true, 0, 1 + 4, 1);
        x.addRule(false, 12 + 2, 31, 0);
        for (int bad : new int[] {-1, 2, 30, BIG, SMALL}) {
            Check.outside("rule " + bad, () -> x.matches(bad, 0, 0, 0));
        }
        wrongAsked("matches", (user, action, resource) -> x.matches(0, user, action, resource));
        Check.same("the user", x.matches(0, 0, READ, 1), true);
        Check.same("another user", x.matches(0, 1, READ, 1), false);
        Check.same("the action", x.matches(0, 0, MAKE, 1), true);
        Check.same("another action", x.matches(0, 0, WRITE, 1), false);
        Check.same("above", x.matches(0, 0, READ, 0), false);
        Check.same("beneath", x.matches(0, 0, READ, 2), false);
        x.setRule(0, true, 0);
        Check.same("beneath a deep one", x.matches(0, 0, READ, 2), true);
        x.setHolds(0, 1, true);
        x.setHolds(1, 2, true);
        x.setRole(1, 0, true);
        Check.same("a role along others", x.matches(1, 1, SHARE, 0), true);
        Check.same("no role", x.matches(1, 0, SHARE, 0), false);
        x.setUser(0, 0, 6);
        x.setTerms(0, 4, 0, 23);
        Check.same("one of its traits", x.matches(0, 0, READ, 1), true);
        x.setTerms(0, 6, 0, 23);
        Check.same("both of its traits", x.matches(0, 0, READ, 1), true);
        x.setTerms(0, 7, 0, 23);
        Check.same("a trait it has not", x.matches(0, 0, READ, 1), false);
        x.setTerms(0, 0, 0, 23);
        x.setLabel(1, 3);
        Check.same("labels are not asked", x.matches(0, 0, READ, 1), true);
        hours();
    }

    private static void hours() {
        PolicyGate x = Gates.gate(1, 0, 1);
        x.addRule(true, 0, 1, 0);
        x.goOn(1440);
        for (int hour = 0; hour < 24; hour++) {
            x.setTerms(0, 0, 9, 17);
            Check.same("9 to 17 at " + hour, x.matches(0, 0, READ, 0), hour >= 9 && hour <= 17);
            x.setTerms(0, 0, 22, 5);
            Check.same("22 to 5 at " + hour, x.matches(0, 0, READ, 0), hour >= 22 || hour <= 5);
            x.setTerms(0, 0, 7, 7);
            Check.same("7 to 7 at " + hour, x.matches(0, 0, READ, 0), hour == 7);
            x.setTerms(0, 0, 8, 7);
            Check.same("8 to 7 at " + hour, x.matches(0, 0, READ, 0), true);
            x.goOn(hour % 2 == 0 ? 119 : 1);
        }
    }

    private interface Asking {
        void ask(int user, int action, int resource);
    }

    /** For gates of three users and three resources. */
    private static void wrongAsked(String name, Asking asking) {
        for (int bad : new int[] {-1, 3, 12, 24, BIG, SMALL}) {
            Check.outside(name + " user " + bad, () -> asking.ask(bad, 0, 0));
            Check.outside(name + " resource " + bad, () -> asking.ask(0, 0, bad));
        }
        for (int bad : new int[] {-1, 5, 31, BIG, SMALL}) {
            Check.outside(name + " action " + bad, () -> asking.ask(0, bad, 0));
        }
    }

    // Promises 23 and 24
    private static void goOnAndClock() {
        PolicyGate x = new PolicyGate();
        for (int bad : new int[] {-1, 0, 10001, BIG, SMALL}) {
            Check.illegal("minutes " + bad, () -> x.goOn(bad));
        }
        Check.same("the clock stays", x.clock(), 0);
        Check.same("the hour", x.goOn(59), 0);
        Check.same("the hour", x.goOn(1), 1);
        Check.same("the clock", x.clock(), 60);
        Check.same("the hour", x.goOn(1379), 23);
        Check.same("midnight", x.goOn(1), 0);
        Check.same("the clock", x.clock(), 1440);
        Check.same("the most", x.goOn(10000), 22);
        Check.same("the clock", x.clock(), 11440);
    }

    // Promise 25
    private static void grant() {
        PolicyGate x = Gates.gate(3, 0, 3);
        for (int bad : new int[] {-1, 3, 12, BIG, SMALL}) {
            Check.outside("from " + bad, () -> x.grant(bad, 1, 0, 0, 0, 1));
            Check.outside("to " + bad, () -> x.grant(0, bad, 0, 0, 0, 1));
            Check.outside("both " + bad, () -> x.grant(bad, bad, 0, 0, 0, 1));
            Check.outside("resource " + bad, () -> x.grant(0, 1, 0, bad, 0, 1));
        }
        for (int bad : new int[] {-1, 5, BIG, SMALL}) {
            Check.outside("action " + bad, () -> x.grant(0, 1, bad, 0, 0, 1));
        }
        Check.outside("first the action", () -> x.grant(0, 0, 5, 0, 4, 0));
        Check.illegal("the same", () -> x.grant(1, 1, 0, 0, 0, 1));
        for (int bad : new int[] {-1, 4, BIG, SMALL}) {
            Check.illegal("hands " + bad, () -> x.grant(0, 1, 0, 0, bad, 1));
        }
        for (int bad : new int[] {-1, 0, 10001, BIG, SMALL}) {
            Check.illegal("minutes " + bad, () -> x.grant(0, 1, 0, 0, 0, bad));
        }
        Check.same("nothing was added", x.grants(), 0);
        for (int k = 0; k < 30; k++) {
            Check.same("grant", x.grant(0, 1, 4, 2, 3, 10000), k);
        }
        Check.refused("thirty-one", () -> x.grant(0, 1, 4, 2, 3, 10000));
        Check.illegal("first the arguments", () -> x.grant(0, 0, 4, 2, 3, 10000));
        Check.same("without the rights it is not good", x.isGood(29), false);
        Gates.deepRule(x, true, 0, ALL, 0);
        Check.same("good later on", x.isGood(29), true);
        x.goOn(9999);
        Check.same("its last minute", x.isGood(29), true);
        x.goOn(1);
        Check.same("its end", x.isGood(29), false);
        Check.refused("those that ended count", () -> x.grant(0, 1, 4, 2, 3, 1));
    }

    // Promise 26
    private static void revoke() {
        PolicyGate x = Gates.gate(2, 0, 1);
        for (int bad : new int[] {-1, 0, 30, BIG, SMALL}) {
            Check.outside("grant " + bad, () -> x.revoke(bad));
        }
        x.addRule(true, 0, ALL, 0);
        x.grant(0, 1, READ, 0, 0, 10);
        x.grant(0, 1, READ, 0, 0, 10);
        x.grant(1, 0, READ, 0, 0, 10);
        x.goOn(3);
        Check.same("there still", x.revoke(0), true);
        Check.same("not any more", x.revoke(0), false);
        Check.same("it is not good", x.isGood(0), false);
        Check.same("it keeps its number", x.isGood(1), true);
        Check.same("it keeps its number", x.why(1, READ, 0), 1);
        Check.same("one that is not good is there", x.revoke(2), true);
        x.goOn(7);
        Check.same("it ended by itself", x.revoke(1), false);
    }

    // Promise 28
    private static void isGoodByRight() {
        PolicyGate x = Gates.gate(3, 0, 3);
        for (int bad : new int[] {-1, 0, 30, BIG, SMALL}) {
            Check.outside("grant " + bad, () -> x.isGood(bad));
        }
        x.addRule(true, 0, 1, 1);
        x.grant(0, 1, READ, 1, 0, 100);
        Check.same("without SHARE", x.isGood(0), false);
        x.addRule(true, 0, 16, 2);
        Check.same("SHARE beneath", x.isGood(0), false);
        x.addRule(true, 0, 16, 1);
        Check.same("both", x.isGood(0), true);
        x.setLabel(1, 1);
        Check.same("the label keeps the right off", x.isGood(0), false);
        x.setLabel(1, 0);
        x.addRule(false, 0, 16, 1);
        Check.same("SHARE denied", x.isGood(0), false);
        x.dropRule(3);
        x.dropRule(0);
        Check.same("SHARE alone", x.isGood(0), false);
        x.grant(0, 2, SHARE, 1, 0, 100);
        Check.same("to share SHARE", x.isGood(1), true);
        x.setWall(1, 0, 0);
        x.setWall(2, 0, 1);
        x.access(0, SHARE, 2);
        Check.same("the wall keeps the right off", x.isGood(1), false);
        PolicyGate y = Gates.gate(3, 0, 2);
        Gates.deepRule(y, true, 0, ALL, 0);
        y.grant(0, 1, READ, 0, 0, 100);
        y.addRule(true, 1, 16, 0);
        y.grant(1, 2, READ, 0, 0, 100);
        Check.same("what one has by a grant is no right by rules", y.decide(1, READ, 0), 3);
        Check.same("and cannot be passed on with SHARE", y.isGood(1), false);
    }

    private static void isGoodPassedOn() {
        PolicyGate x = Gates.gate(5, 0, 3);
        Gates.deepRule(x, true, 0, ALL, 0);
        x.grant(1, 2, READ, 1, 0, 100);
        x.grant(0, 1, READ, 1, 2, 100);
        Check.same("only of a smaller number", x.isGood(0), false);
        x.grant(1, 2, READ, 1, 2, 100);
        Check.same("as many hands", x.isGood(2), false);
        x.grant(1, 2, READ, 1, 1, 100);
        Check.same("fewer hands", x.isGood(3), true);
        x.grant(2, 3, READ, 2, 0, 100);
        Check.same("beneath, one more", x.isGood(4), true);
        x.grant(2, 3, READ, 0, 0, 100);
        Check.same("above", x.isGood(5), false);
        x.grant(2, 3, WRITE, 1, 0, 100);
        Check.same("another action", x.isGood(6), false);
        x.grant(3, 4, READ, 2, 0, 100);
        Check.same("no hands left", x.isGood(7), false);
        x.grant(4, 2, READ, 1, 0, 100);
        Check.same("not to it", x.isGood(8), false);
        x.addRule(false, 2, ALL, 2);
        x.setLabel(2, 3);
        Check.same("what is decided is not asked", x.isGood(4), true);
        Check.same("it reads by the grant", x.decide(2, READ, 1), 3);
        x.revoke(1);
        Check.same("the whole chain falls", x.isGood(3), false);
        Check.same("the whole chain falls", x.isGood(4), false);
    }

    // Promise 29
    private static void decideByLabels() {
        PolicyGate x = Gates.gate(3, 0, 3);
        wrongAsked("decide", x::decide);
        for (int clearance = 0; clearance < 4; clearance++) {
            for (int label = 0; label < 4; label++) {
                x.setUser(0, clearance, 0);
                x.setLabel(1, label);
                String at = " clearance " + clearance + " label " + label;
                Check.same("READ" + at, x.decide(0, READ, 1), label > clearance ? 4 : 0);
                Check.same("WRITE" + at, x.decide(0, WRITE, 1), label < clearance ? 4 : 0);
                Check.same("MAKE" + at, x.decide(0, MAKE, 1), label < clearance ? 4 : 0);
                Check.same("DROP" + at, x.decide(0, DROP, 1), label < clearance ? 4 : 0);
                Check.same("SHARE" + at, x.decide(0, SHARE, 1), 0);
            }
        }
        Gates.deepRule(x, true, 0, ALL, 0);
        x.setUser(0, 1, 0);
        x.setLabel(1, 2);
        Check.same("labels come before rules", x.decide(0, READ, 1), 4);
        Check.same("beneath, without a label", x.decide(0, READ, 2), 1);
    }

    private static void decideByWalls() {
        PolicyGate x = Gates.gate(2, 0, 1);
        for (int k = 0; k < 4; k++) {
            x.addResource(0);
        }
        Gates.deepRule(x, true, 0, ALL, 0);
        Gates.deepRule(x, true, 1, ALL, 0);
        x.setWall(1, 0, 0);
        x.setWall(2, 0, 1);
        x.setWall(3, 1, 1);
        x.setWall(4, 0, 0);
        Check.same("nothing done yet", x.decide(0, READ, 2), 1);
        x.access(0, SHARE, 1);
        Check.same("another house", x.decide(0, READ, 2), 5);
        Check.same("another house, any action", x.decide(0, SHARE, 2), 5);
        Check.same("the same one", x.decide(0, READ, 1), 1);
        Check.same("the same house", x.decide(0, READ, 4), 1);
        Check.same("another class", x.decide(0, READ, 3), 1);
        Check.same("no wall", x.decide(0, READ, 0), 1);
        Check.same("another user", x.decide(1, READ, 2), 1);
        x.setLabel(2, 1);
        Check.same("labels come before walls", x.decide(0, READ, 2), 4);
        Check.same("labels come before walls", x.decide(0, WRITE, 2), 5);
        x.setLabel(2, 0);
        x.setWall(1, 0, 1);
        Check.same("what it has now counts", x.decide(0, READ, 2), 1);
        Check.same("what it has now counts", x.decide(0, READ, 4), 5);
        x.setWall(1, -1, 0);
        Check.same("no wall any more", x.decide(0, READ, 4), 1);
        x.setWall(1, 1, 3);
        Check.same("another class now", x.decide(0, READ, 3), 5);
        x.setWall(2, 0, 0);
        x.addRule(false, 0, ALL, 4);
        Check.same("the same house, but denied", x.decide(0, READ, 4), 2);
        wallsOfTheLast();
    }

    /** The last user, resources, class and house. */
    private static void wallsOfTheLast() {
        PolicyGate x = Gates.gate(12, 0, 24);
        Gates.deepRule(x, true, 11, ALL, 0);
        x.setWall(23, 3, 3);
        x.setWall(22, 3, 2);
        x.setWall(21, 2, 2);
        Check.same("allowed", x.access(11, READ, 23), 1);
        Check.same("another house", x.decide(11, READ, 22), 5);
        Check.same("the same house", x.decide(11, READ, 23), 1);
        Check.same("another class", x.decide(11, READ, 21), 1);
        Check.same("another user", x.decide(10, READ, 22), 0);
    }

    private static void decideByDenyAndAllow() {
        PolicyGate x = Gates.gate(3, 2, 3);
        x.setRole(0, 0, true);
        Gates.deepRule(x, true, 0, 1, 0);
        Gates.deepRule(x, true, 12, 1 + 2, 2);
        Check.same("allowed", x.decide(0, READ, 2), 1);
        Check.same("no rule", x.decide(0, MAKE, 2), 0);
        Check.same("no rule", x.decide(1, READ, 2), 0);
        Check.same("the smallest number", x.why(0, READ, 2), 0);
        Gates.deepRule(x, false, 12, 1, 1);
        x.addRule(false, 0, 1, 2);
        Check.same("DENY", x.decide(0, READ, 2), 2);
        Check.same("the smallest that denies", x.why(0, READ, 2), 2);
        Check.same("only where it matches", x.decide(0, READ, 0), 1);
        x.setWeighing(1);
        Check.same("ALLOW", x.decide(0, READ, 2), 1);
        Check.same("the smallest that allows", x.why(0, READ, 2), 0);
        x.dropRule(0);
        x.dropRule(0);
        Check.same("ALLOW, none allows", x.decide(0, READ, 2), 2);
        Check.same("the smallest", x.why(0, READ, 2), 0);
    }

    private static void decideByNearest() {
        PolicyGate x = Gates.gate(1, 4, 4);
        x.setWeighing(2);
        x.setHolds(0, 1, true);
        x.setHolds(1, 2, true);
        x.setRole(0, 0, true);
        x.setRole(0, 3, true);
        Gates.deepRule(x, false, 0, ALL, 0);
        Check.same("the only one", x.why(0, READ, 3), 0);
        Gates.deepRule(x, true, 12 + 2, ALL, 1);
        Check.same("less far, though by a role", x.why(0, READ, 3), 1);
        Check.same("where it does not match", x.why(0, READ, 0), 0);
        Gates.deepRule(x, false, 12 + 1, ALL, 1);
        Check.same("as far, nearer role", x.why(0, READ, 3), 2);
        Gates.deepRule(x, true, 12, ALL, 1);
        Check.same("as far, nearer role", x.why(0, READ, 3), 3);
        Check.same("it allows", x.decide(0, READ, 3), 1);
        Gates.deepRule(x, false, 12 + 3, ALL, 1);
        Check.same("as far, as near: denying", x.why(0, READ, 3), 4);
        Check.same("it denies", x.decide(0, READ, 3), 2);
        Gates.deepRule(x, true, 0, ALL, 1);
        Check.same("as far, the user itself", x.why(0, READ, 3), 5);
        Gates.deepRule(x, false, 0, ALL, 1);
        Check.same("the user itself, denying", x.why(0, READ, 3), 6);
        x.addRule(true, 12 + 2, 1, 3);
        Check.same("its own resource", x.why(0, READ, 3), 7);
        Check.same("another action", x.why(0, WRITE, 3), 6);
        x.setTerms(7, 1, 0, 23);
        Check.same("one that does not match", x.why(0, READ, 3), 6);
        x.setTerms(7, 0, 0, 23);
        x.setRole(0, 2, true);
        Gates.deepRule(x, false, 12 + 1, 1, 3);
        Check.same("the least near counts", x.why(0, READ, 3), 7);
    }

    private static void decideByRank() {
        PolicyGate x = Gates.gate(1, 0, 3);
        x.setWeighing(3);
        x.addRule(false, 0, 1, 0);
        x.addRule(true, 0, 1, 0);
        x.addRule(false, 0, 1, 0);
        x.addRule(true, 0, 1, 0);
        Check.same("the same rank: denying", x.why(0, READ, 0), 0);
        x.setRule(3, false, 2);
        Check.same("the greatest", x.why(0, READ, 0), 3);
        x.setRule(1, false, 2);
        Check.same("the greatest, the smallest number", x.why(0, READ, 0), 1);
        x.setRule(2, false, 2);
        Check.same("the greatest: denying", x.why(0, READ, 0), 2);
        x.setRule(3, false, 9);
        Check.same("the greatest", x.why(0, READ, 0), 3);
        x.setTerms(3, 1, 0, 23);
        Check.same("one that does not match", x.why(0, READ, 0), 2);
    }

    private static void decideByGrants() {
        PolicyGate x = Gates.gate(3, 0, 3);
        Gates.deepRule(x, true, 0, ALL, 0);
        x.grant(0, 1, READ, 1, 0, 60);
        Check.same("granted", x.decide(1, READ, 1), 3);
        Check.same("beneath", x.decide(1, READ, 2), 3);
        Check.same("above", x.decide(1, READ, 0), 0);
        Check.same("another action", x.decide(1, WRITE, 1), 0);
        Check.same("another user", x.decide(2, READ, 1), 0);
        x.setLabel(2, 1);
        Check.same("labels come before", x.decide(1, READ, 2), 4);
        x.setLabel(2, 0);
        x.addRule(false, 1, 1, 2);
        Check.same("rules come before", x.decide(1, READ, 2), 2);
        x.addRule(true, 1, 1, 1);
        Check.same("rules come before", x.decide(1, READ, 1), 1);
        x.dropRule(2);
        x.goOn(59);
        Check.same("granted still", x.decide(1, READ, 1), 3);
        x.goOn(1);
        Check.same("it ended", x.decide(1, READ, 1), 0);
    }

    // Promise 30
    private static void why() {
        PolicyGate x = Gates.gate(3, 0, 3);
        wrongAsked("why", x::why);
        x.addRule(false, 2, 1, 0);
        Gates.deepRule(x, true, 0, ALL, 0);
        x.grant(1, 2, READ, 0, 0, 60);
        x.grant(0, 1, READ, 2, 0, 60);
        x.grant(0, 1, READ, 1, 0, 60);
        x.grant(0, 1, READ, 0, 0, 60);
        Check.same("the rule that allows", x.why(0, READ, 0), 1);
        Check.same("the rule that denies", x.why(2, READ, 0), 0);
        Check.same("the first good grant", x.why(1, READ, 2), 1);
        Check.same("the first good grant", x.why(1, READ, 1), 2);
        Check.same("the first good grant", x.why(1, READ, 0), 3);
        Check.same("nothing", x.why(1, WRITE, 0), -1);
        Check.same("a grant that is not good", x.why(2, READ, 2), -1);
        x.setLabel(0, 1);
        Check.same("a label", x.why(0, READ, 0), -1);
        x.setLabel(0, 0);
        x.setWall(1, 0, 0);
        x.setWall(2, 0, 1);
        x.access(0, READ, 1);
        Check.same("a wall", x.why(0, READ, 2), -1);
    }

    // Promise 31
    private static void access() {
        PolicyGate x = Gates.gate(3, 0, 3);
        wrongAsked("access", x::access);
        Gates.deepRule(x, true, 0, 1 + 4 + 16, 0);
        x.addRule(false, 0, 2, 0);
        x.grant(0, 1, READ, 0, 0, 60);
        x.setLabel(2, 1);
        Check.same("allowed", x.access(0, READ, 0), 1);
        Check.same("it has done it", x.done(0, 0), 1);
        Check.same("denied", x.access(0, WRITE, 0), 2);
        Check.same("nothing", x.access(0, DROP, 0), 0);
        Check.same("a label", x.access(0, READ, 2), 4);
        Check.same("it has not done these", x.done(0, 0), 1);
        Check.same("it has not done these", x.done(0, 2), 0);
        Check.same("granted", x.access(1, READ, 1), 3);
        Check.same("it has done it", x.done(1, 1), 1);
        x.setWall(0, 2, 0);
        x.setWall(1, 2, 1);
        Check.same("a wall", x.access(0, MAKE, 1), 5);
        Check.same("it has not done it", x.done(0, 1), 0);
        Check.same("allowed", x.access(0, MAKE, 0), 1);
        Check.same("it has done both", x.done(0, 0), 5);
        int[] due = {1, 2, 1, 1, 1, 1};
        for (int decision = 0; decision < 6; decision++) {
            Check.same("counted " + decision, x.counted(decision), due[decision]);
        }
    }

    // Promise 32
    private static void counted() {
        PolicyGate x = Gates.gate(1, 0, 1);
        for (int bad : new int[] {-1, 6, BIG, SMALL}) {
            Check.illegal("decision " + bad, () -> x.counted(bad));
        }
        x.addRule(true, 0, 1, 0);
        for (int k = 1; k <= 5; k++) {
            Check.same("none yet", x.counted(0), k - 1);
            x.access(0, READ, 0);
            x.access(0, WRITE, 0);
            x.decide(0, READ, 0);
            Check.same("decide is not counted", x.counted(1), k);
        }
        Check.outside("what throws", () -> x.access(0, 5, 0));
        Check.same("is not counted", x.counted(0) + x.counted(1), 10);
        Check.same("the others", x.counted(2) + x.counted(3) + x.counted(4) + x.counted(5), 0);
    }

    // Promise 33
    private static void done() {
        PolicyGate x = Gates.gate(2, 0, 24);
        for (int bad : new int[] {-1, 2, 12, BIG, SMALL}) {
            Check.outside("user " + bad, () -> x.done(bad, 0));
        }
        for (int bad : new int[] {-1, 24, 32, BIG, SMALL}) {
            Check.outside("resource " + bad, () -> x.done(0, bad));
        }
        Gates.deepRule(x, true, 0, ALL, 0);
        Gates.deepRule(x, true, 1, ALL, 0);
        int due = 0;
        for (int action : new int[] {SHARE, READ, DROP, WRITE, MAKE}) {
            x.access(0, action, 23);
            due |= 1 << action;
            Check.same("done", x.done(0, 23), due);
        }
        Check.same("the other user", x.done(1, 23), 0);
        Check.same("the other user", x.done(1, 0), 0);
        Check.same("another resource", x.done(0, 22), 0);
        x.access(1, WRITE, 0);
        Check.same("done", x.done(1, 0), 2);
        x.dropRule(0);
        Check.same("it stays", x.done(0, 23), 31);
    }

    // Promise 34
    private static void who() {
        PolicyGate x = Gates.gate(12, 1, 2);
        for (int bad : new int[] {-1, 5, BIG, SMALL}) {
            Check.outside("action " + bad, () -> x.who(bad, 0));
        }
        for (int bad : new int[] {-1, 2, 24, BIG, SMALL}) {
            Check.outside("resource " + bad, () -> x.who(0, bad));
        }
        Check.same("nobody", x.who(0, 0), 0);
        Gates.deepRule(x, true, 0, ALL, 0);
        x.addRule(true, 12, 1, 0);
        x.addRule(false, 11, 1, 0);
        x.setRole(11, 0, true);
        x.setRole(10, 0, true);
        x.grant(0, 5, READ, 0, 0, 10);
        Check.same("by rules and grants, without those denied", x.who(READ, 0), 1 + (1 << 10) + (1 << 5));
        Check.same("beneath", x.who(READ, 1), 1 + (1 << 5));
        Check.same("another action", x.who(WRITE, 0), 1);
    }

    // Promise 35
    private static void reach() {
        PolicyGate x = Gates.gate(3, 0, 4);
        for (int bad : new int[] {-1, 3, 12, BIG, SMALL}) {
            Check.outside("user " + bad, () -> x.reach(bad, 0));
        }
        for (int bad : new int[] {-1, 5, BIG, SMALL}) {
            Check.outside("action " + bad, () -> x.reach(0, bad));
        }
        Check.same("nothing", x.reach(0, READ), 0);
        Gates.deepRule(x, true, 0, ALL, 0);
        x.grant(0, 1, READ, 1, 0, 10);
        x.addRule(false, 0, 2, 3);
        Check.same("all", x.reach(0, READ), 4);
        Check.same("all but one", x.reach(0, WRITE), 3);
        Check.same("by a grant", x.reach(1, READ), 3);
        Check.same("another action", x.reach(1, WRITE), 0);
    }

    // Promise 36
    private static void rolesNeeded() {
        PolicyGate x = Gates.gate(3, 4, 3);
        wrongAsked("rolesNeeded", x::rolesNeeded);
        Check.same("no rule", x.rolesNeeded(0, READ, 0), -1);
        x.addRule(true, 12 + 2, 1, 0);
        Check.same("one role", x.rolesNeeded(0, READ, 0), 1);
        x.setRole(0, 2, true);
        Check.same("it is allowed now", x.rolesNeeded(0, READ, 0), 0);
        x.setRole(0, 2, false);
        x.setLabel(0, 1);
        Check.same("no role helps against a label", x.rolesNeeded(0, READ, 0), -1);
        x.setLabel(0, 0);
        x.addRule(false, 0, 1, 0);
        Check.same("denied for itself", x.rolesNeeded(0, READ, 0), -1);
        x.setWeighing(1);
        Check.same("ALLOW", x.rolesNeeded(0, READ, 0), 1);
        x.setWeighing(0);
        x.dropRule(1);
        x.addRule(false, 12 + 3, 1, 0);
        x.setHolds(0, 2, true);
        x.setHolds(1, 3, true);
        Check.same("along another", x.rolesNeeded(0, READ, 0), 1);
        x.setRole(0, 1, true);
        Check.same("what it has denies", x.rolesNeeded(0, READ, 0), -1);
        x.setWeighing(2);
        Check.same("a nearer one", x.rolesNeeded(0, READ, 0), 1);
        x.setHolds(1, 3, false);
        x.setRole(0, 3, true);
        Check.same("none is nearer", x.rolesNeeded(0, READ, 0), -1);
        x.addRule(true, 1, 1, 1);
        Check.same("the rule of another user", x.rolesNeeded(0, READ, 1), -1);
    }

    private static void rolesNeededWithApart() {
        PolicyGate x = Gates.gate(1, 4, 1);
        x.addRule(true, 12 + 1, 1, 0);
        x.setRole(0, 0, true);
        x.setApart(0, 1);
        Check.same("apart from what it has", x.rolesNeeded(0, READ, 0), -1);
        x.setHolds(2, 1, true);
        Check.same("along another, apart as well", x.rolesNeeded(0, READ, 0), -1);
        x.setRole(0, 0, false);
        Check.same("free again", x.rolesNeeded(0, READ, 0), 1);
        x.setApart(2, 1);
        x.setRole(0, 3, true);
        x.setApart(3, 1);
        Check.same("a role apart from one it holds", x.rolesNeeded(0, READ, 0), -1);

        PolicyGate y = Gates.gate(1, 2, 1);
        y.setWeighing(2);
        y.setHolds(0, 1, true);
        y.addRule(true, 13, 1, 0);
        y.addRule(false, 12, 1, 0);
        y.setRole(0, 0, true);
        Check.same("as near as the denying one", y.rolesNeeded(0, READ, 0), -1);
        y.setHolds(0, 1, false);
        y.dropRule(1);
        y.setRole(0, 0, false);
        y.addRule(true, 12, 2, 0);
        Check.same("one of the two is enough", y.rolesNeeded(0, WRITE, 0), 1);
    }

    /** To read beneath 0, user 0 needs its own grant back: for that it needs two roles, READ and SHARE on 0. */
    private static void rolesNeededForGrants() {
        PolicyGate x = Gates.gate(2, 4, 2);
        x.addRule(true, 12 + 1, 1, 0);
        x.addRule(true, 12 + 2, 16, 0);
        x.grant(0, 1, READ, 0, 1, 100);
        x.grant(1, 0, READ, 0, 0, 100);
        Check.same("beneath, no rule and no good grant", x.decide(0, READ, 1), 0);
        Check.same("two roles", x.rolesNeeded(0, READ, 1), 2);
        Check.same("one for the resource itself", x.rolesNeeded(0, READ, 0), 1);
        x.setRole(0, 1, true);
        Check.same("one more", x.rolesNeeded(0, READ, 1), 1);
        x.setRole(0, 2, true);
        Check.same("granted now", x.rolesNeeded(0, READ, 1), 0);
        Check.same("granted now", x.decide(0, READ, 1), 3);
        x.setRole(0, 1, false);
        x.setRole(0, 2, false);
        x.setApart(1, 2);
        Check.same("two that are apart", x.rolesNeeded(0, READ, 1), -1);
        x.addRule(true, 12 + 3, 17, 0);
        Check.same("one that gives both", x.rolesNeeded(0, READ, 1), 1);
        x.goOn(100);
        Check.same("the grants ended", x.rolesNeeded(0, READ, 1), -1);
    }

    // Promise 37
    private static void contradictions() {
        PolicyGate x = Gates.gate(2, 2, 3);
        Check.same("none", x.contradictions(), 0);
        x.addRule(true, 0, 1 + 2, 1);
        x.addRule(true, 0, 1, 1);
        Check.same("both allow", x.contradictions(), 0);
        x.addRule(false, 0, 2, 1);
        Check.same("one pair", x.contradictions(), 1);
        x.addRule(false, 0, 1, 0);
        Check.same("not deep", x.contradictions(), 1);
        x.setRule(3, true, 0);
        Check.same("deep: two pairs more", x.contradictions(), 3);
        x.addRule(false, 12, 31, 2);
        x.setRule(0, true, 0);
        Check.same("nobody has the role", x.contradictions(), 3);
        x.setRole(1, 0, true);
        Check.same("another user has it", x.contradictions(), 3);
        x.setRole(0, 0, true);
        Check.same("the user has it", x.contradictions(), 4);
        x.setLabel(2, 3);
        Check.same("labels are not asked", x.contradictions(), 4);
        x.setTerms(3, 0, 1, 1);
        Check.same("not in this hour", x.contradictions(), 2);
        x.goOn(60);
        Check.same("in the next one", x.contradictions(), 4);
        x.setTerms(3, 1, 0, 23);
        Check.same("a trait that nobody has", x.contradictions(), 2);
    }

    // Promise 38
    private static void isIdle() {
        PolicyGate x = Gates.gate(3, 1, 2);
        for (int bad : new int[] {-1, 0, 30, BIG, SMALL}) {
            Check.outside("rule " + bad, () -> x.isIdle(bad));
        }
        x.addRule(true, 0, 1, 0);
        Check.same("the only one", x.isIdle(0), false);
        x.addRule(true, 0, 1, 0);
        Check.same("which rule does not count", x.isIdle(0), true);
        Check.same("which rule does not count", x.isIdle(1), true);
        x.addRule(true, 12, 1, 0);
        Check.same("nobody has the role", x.isIdle(2), true);
        x.setRole(1, 0, true);
        Check.same("one has the role", x.isIdle(2), false);
        x.addRule(false, 0, 1, 0);
        Check.same("it denies", x.isIdle(3), false);
        Check.same("never reached", x.isIdle(0), true);
        x.dropRule(3);
        x.dropRule(1);
        x.addRule(true, 0, 16, 0);
        Check.same("SHARE for itself", x.isIdle(2), false);
        x.addRule(true, 2, 1, 0);
        x.grant(0, 2, READ, 0, 0, 100);
        Check.same("1 and 3 are not the same", x.isIdle(3), false);
        x.grant(0, 2, READ, 1, 0, 100);
        x.setLabel(0, 1);
        Check.same("labels stand before it", x.isIdle(0), true);

        PolicyGate y = Gates.gate(3, 1, 1);
        y.setWall(0, 0, 0);
        y.addResource(0);
        y.setRole(0, 0, true);
        y.addRule(true, 12, 17, 0);
        y.setRole(1, 0, true);
        y.grant(0, 2, READ, 0, 0, 100);
        y.addRule(false, 1, 17, 0);
        y.addRule(false, 0, 17, 0);
        y.setWeighing(1);
        Check.same("a denial that ALLOW never hears", y.isIdle(2), true);
        Check.same("without it the grant would not be good", y.isIdle(0), false);
    }

    // Promise 39
    private static void wouldDiffer() {
        PolicyGate x = Gates.gate(2, 1, 2);
        for (int bad : new int[] {-1, 4, BIG, SMALL}) {
            Check.illegal("weighing " + bad, () -> x.wouldDiffer(bad));
        }
        Gates.deepRule(x, false, 0, 1 + 16, 0);
        Gates.deepRule(x, true, 0, 1 + 16, 0);
        x.setRule(1, true, 5);
        Check.same("as it is", x.wouldDiffer(0), 0);
        Check.same("ALLOW: two actions on two", x.wouldDiffer(1), 4);
        Check.same("NEAREST", x.wouldDiffer(2), 0);
        Check.same("RANK", x.wouldDiffer(3), 4);
        x.grant(0, 1, READ, 1, 0, 100);
        Check.same("a grant that would be good", x.wouldDiffer(1), 5);
        x.setWeighing(1);
        Check.same("the other way round", x.wouldDiffer(0), 5);
        Check.same("as it is", x.wouldDiffer(1), 0);
        Check.same("it does not stay", x.setWeighing(1), 1);
        x.addRule(true, 1, 1, 1);
        Check.same("allowed without the grant", x.wouldDiffer(0), 4);
    }

    // Promise 40
    private static void wouldGain() {
        PolicyGate x = Gates.gate(2, 3, 3);
        for (int bad : new int[] {-1, 2, 12, BIG, SMALL}) {
            Check.outside("user " + bad, () -> x.wouldGain(bad, 0));
        }
        for (int bad : new int[] {-1, 3, 12, BIG, SMALL}) {
            Check.outside("role " + bad, () -> x.wouldGain(0, bad));
        }
        Check.same("nothing", x.wouldGain(0, 0), 0);
        Gates.deepRule(x, true, 12 + 1, 1 + 2, 1);
        x.setHolds(0, 1, true);
        Check.same("two actions on two", x.wouldGain(0, 1), 4);
        Check.same("along another", x.wouldGain(0, 0), 4);
        x.addRule(true, 0, 1, 2);
        Check.same("what it has is no gain", x.wouldGain(0, 1), 3);
        x.setRole(0, 2, true);
        x.setApart(1, 2);
        Check.same("apart or not", x.wouldGain(0, 1), 3);
        Check.same("what it has", x.wouldGain(0, 2), 0);
        Check.same("it is not given", x.near(0, 1), -1);
        x.addRule(false, 12 + 1, 31, 0);
        x.addRule(true, 0, 16, 0);
        Check.same("losses are not counted", x.wouldGain(0, 1), 3);

        PolicyGate y = Gates.gate(2, 1, 2);
        y.addRule(true, 12, 17, 0);
        y.grant(0, 1, READ, 0, 1, 100);
        y.grant(1, 0, READ, 0, 0, 100);
        Check.same("READ and SHARE, and READ beneath by the grant back", y.wouldGain(0, 0), 3);
        Check.same("for the other one the grant to it does not count", y.wouldGain(1, 0), 2);
    }

    // Promise 41
    private static void openness() {
        PolicyGate x = new PolicyGate();
        Check.same("without users", x.openness(), 0.0);
        x.addUser(0, 0);
        Check.same("nothing", x.openness(), 0.0);
        x.addRule(true, 0, 1, 0);
        Check.same("one of five", x.openness(), 1.0 / 5);
        x.addUser(0, 0);
        x.addResource(0);
        x.addResource(0);
        Check.same("one of thirty", x.openness(), 1.0 / 30);
        x.setRule(0, true, 0);
        x.addRule(true, 0, 16, 1);
        x.grant(0, 1, READ, 1, 0, 10);
        Check.same("rules and grants", x.openness(), 5.0 / 30);
        PolicyGate y = Gates.gate(1, 0, 1);
        y.addRule(true, 0, 31, 0);
        Check.same("all", y.openness(), 1.0);
    }

    // Promise 42
    private static void digest() {
        PolicyGate x = new PolicyGate();
        long[] fresh = {0, 0, 1, 0, 0, 0, 0, 0, 0, 0, 0, 0, 0, 0};
        Check.same("a new gate", x.digest(), sum(fresh));
        x.addUser(0, 0);
        x.addUser(1, 0);
        x.addRole();
        x.addResource(0);
        x.addRule(true, 0, 1 + 16, 0);
        x.addRule(false, 12, 1, 0);
        x.setRule(0, true, 0);
        x.grant(0, 1, READ, 1, 0, 90);
        x.grant(1, 0, READ, 1, 0, 90);
        x.setRole(0, 0, true);
        x.goOn(60);
        x.access(0, SHARE, 1);
        x.access(0, READ, 0);
        long[] due = {
            2, 1, 2, 2, 2, 60,
            1, -1,
            0, 1,
            1, 0,
            2, 1, 0, 0, 0, 0, 0, 0, 1, 1,
            0, 3, 4, 4, 4, 4, 4, 4, 0, 0,
            1, 0, -1, -1, -1, -1, -1, -1, 0, 0,
            -1, 0, -1, -1, -1, -1, -1, -1, -1, -1,
            0, 1, 1, 0, 0, 0,
            0, 16, 0, 0,
            1,
        };
        Check.same("every part in its order", x.digest(), sum(due));
        Check.same("it changes nothing", x.digest(), sum(due));
    }

    private static long sum(long[] values) {
        long d = 2579;
        for (long v : values) {
            d = d * 31 + v;
        }
        return d;
    }

    private static void askingChangesNothing() {
        PolicyGate x = Gates.gate(4, 4, 4);
        Gates.deepRule(x, true, 12, ALL, 0);
        Gates.deepRule(x, false, 13, 1, 2);
        x.setRole(0, 0, true);
        x.setHolds(0, 1, true);
        x.grant(0, 2, READ, 1, 2, 500);
        x.setWall(2, 1, 1);
        x.access(0, WRITE, 2);
        long before = x.digest();
        x.isIdle(0);
        x.wouldDiffer(3);
        x.wouldGain(1, 0);
        x.rolesNeeded(3, READ, 3);
        x.who(0, 0);
        x.reach(0, 0);
        x.contradictions();
        x.openness();
        Check.same("after questions", x.digest(), before);
        Check.refused("a throw", () -> {
            x.setApart(0, 1);
        });
        Check.illegal("a throw", () -> x.setHolds(1, 0, true));
        Check.illegal("a throw", () -> x.setUser(0, 3, 256));
        Check.illegal("a throw", () -> x.setWall(2, 2, 4));
        Check.illegal("a throw", () -> x.setTerms(0, 1, 2, 24));
        Check.same("after throws", x.digest(), before);
    }
}
