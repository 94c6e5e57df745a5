/** The sentences of the document's Terms that name a boundary, one by one, with answers worked out by hand. */
public final class TermsEdgeTest {
    private static final int READ = 0;
    private static final int WRITE = 1;
    private static final int SHARE = 4;
    private static final int ALL = 31;
    private static final int ROLE = 12;

    private static final int DENY = 0;
    private static final int ALLOW = 1;
    private static final int NEAREST = 2;
    private static final int RANK = 3;

    private TermsEdgeTest() {
    }

    public static void main(String[] args) {
        calls();
        clockAndHour();
        clearance();
        traits();
        neverItself();
        near();
        hasByAnyNumber();
        tenPairs();
        apartForNoUser();
        rootAndParents();
        beneath();
        labels();
        walls();
        actions();
        thirtyRules();
        ranks();
        hours();
        whereARuleMatches();
        forWhomARuleMatches();
        none();
        deny();
        allow();
        nearestFar();
        nearestUser();
        nearestRole();
        nearestAsDeny();
        rankAsDeny();
        thirtyGrants();
        thereBelowTheEnd();
        goodOnThatResourceItself();
        goodByBothRights();
        goodByRulesAlone();
        passedOnFromASmallerNumber();
        passedOnWithHands();
        passedOnBeneath();
        passedOnWhileGood();
        passedOnWhateverIsDecided();
        decidedByLabel();
        decidedByWall();
        wallsOfOthers();
        wallsAsTheyAreNow();
        decidedInOrder();
        allowedWithOneAndThree();
        Check.end("TermsEdgeTest");
    }

    /** Each role holds the next one. */
    private static PolicyGate withChain(PolicyGate x, int roles) {
        for (int k = 1; k < roles; k++) {
            x.setHolds(k - 1, k, true);
        }
        return x;
    }

    private static void calls() {
        Check.about("An object is used for at most 512 calls after it has been made");
        PolicyGate x = new PolicyGate();
        for (int call = 1; call <= 510; call++) {
            x.goOn(10000);
        }
        Check.same("the hour of the 511th call", x.goOn(10000), 14);
        Check.same("the 512th call", x.clock(), 5110000);
    }

    private static void clockAndHour() {
        Check.about("The CLOCK is at the minute 0 at first");
        PolicyGate x = Gates.gate(1, 0, 1);
        Check.same("the clock", x.clock(), 0);
        x.addRule(true, 0, 1, 0);
        x.setTerms(0, 0, 0, 0);
        Check.same("the hour 0", x.matches(0, 0, READ, 0), true);
        Check.about("The HOUR is (CLOCK / 60) % 24, / cut towards 0");
        Check.same("59 minutes", x.goOn(59), 0);
        Check.same("still the hour 0", x.matches(0, 0, READ, 0), true);
        Check.same("60 minutes", x.goOn(1), 1);
        Check.same("no more", x.matches(0, 0, READ, 0), false);
        Check.same("119 minutes", x.goOn(59), 1);
        Check.same("120 minutes", x.goOn(1), 2);
        Check.same("1439 minutes", x.goOn(1319), 23);
        Check.same("1440 minutes", x.goOn(1), 0);
        Check.same("the hour 0 again", x.matches(0, 0, READ, 0), true);
        Check.same("2879 minutes", x.goOn(1439), 23);
        Check.same("2880 minutes", x.goOn(1), 0);
    }

    private static void clearance() {
        Check.about("a CLEARANCE, 0 to 3");
        for (int clearance = 0; clearance < 4; clearance++) {
            PolicyGate x = new PolicyGate();
            x.addUser(clearance, 0);
            x.setLabel(0, clearance);
            Check.same(clearance + " reads its own label", x.decide(0, READ, 0), 0);
            Check.same(clearance + " writes on its own label", x.decide(0, WRITE, 0), 0);
        }
    }

    private static void traits() {
        Check.about("a set of TRAITS, 0 to 255: the user has all TRAITS it needs");
        PolicyGate x = Gates.gate(1, 0, 1);
        x.addRule(true, 0, 1, 0);
        Check.same("none needed, none had", x.matches(0, 0, READ, 0), true);
        for (int trait = 0; trait < 8; trait++) {
            x.setTerms(0, 1 << trait, 0, 23);
            x.setUser(0, 0, 1 << trait);
            Check.same("trait " + trait, x.matches(0, 0, READ, 0), true);
            x.setUser(0, 0, 255 - (1 << trait));
            Check.same("all but trait " + trait, x.matches(0, 0, READ, 0), false);
            x.setTerms(0, 255, 0, 23);
            Check.same("all needed, trait " + trait + " missing", x.matches(0, 0, READ, 0), false);
        }
        x.setUser(0, 0, 255);
        Check.same("all needed, all had", x.matches(0, 0, READ, 0), true);
        x.setTerms(0, 0, 0, 23);
        Check.same("none needed, all had", x.matches(0, 0, READ, 0), true);
    }

    private static void neverItself() {
        Check.about("A role can hold other roles, but never, along however many, itself");
        PolicyGate x = withChain(Gates.gate(0, 12, 1), 12);
        for (int last = 1; last < 12; last++) {
            int role = last;
            Check.illegal("along " + last, () -> x.setHolds(role, 0, true));
        }
        Check.illegal("along none", () -> x.setHolds(11, 11, true));
        Check.same("a second way down", x.setHolds(0, 11, true), false);
        Check.illegal("along the second way", () -> x.setHolds(11, 0, true));
        x.setHolds(5, 6, false);
        Check.illegal("along the second way alone", () -> x.setHolds(11, 0, true));
        x.setHolds(0, 11, false);
        Check.same("cut in two, it may", x.setHolds(11, 0, true), false);
        Check.illegal("now the other end may not", () -> x.setHolds(5, 6, true));
    }

    private static void near() {
        Check.about("NEAR by 1, if it is in the set, by n + 1, if it is held by one that it has near by n; the least");
        PolicyGate x = withChain(Gates.gate(1, 12, 1), 11);
        Check.same("not at all", x.near(0, 0), -1);
        x.setRole(0, 0, true);
        Check.same("in the set", x.near(0, 0), 1);
        Check.same("held by it", x.near(0, 1), 2);
        Check.same("along ten", x.near(0, 10), 11);
        Check.same("not along them", x.near(0, 11), -1);
        x.setHolds(10, 11, true);
        Check.same("along eleven", x.near(0, 11), 12);
        x.setHolds(9, 11, true);
        Check.same("one step less", x.near(0, 11), 11);
        Check.same("those before it stay", x.near(0, 10), 11);
        x.setHolds(0, 11, true);
        Check.same("the least of three ways", x.near(0, 11), 2);
        x.setRole(0, 11, true);
        Check.same("in the set as well", x.near(0, 11), 1);
        x.setRole(0, 11, false);
        Check.same("not in the set any more", x.near(0, 11), 2);
        x.setRole(0, 0, false);
        Check.same("nothing is left", x.near(0, 11), -1);
    }

    private static void hasByAnyNumber() {
        Check.about("A user HAS all roles that it has near by any number");
        PolicyGate x = withChain(Gates.gate(2, 12, 1), 12);
        x.addRule(true, ROLE + 11, 1, 0);
        Check.same("without a role", x.decide(0, READ, 0), 0);
        x.setRole(0, 0, true);
        Check.same("near by 12", x.decide(0, READ, 0), 1);
        Check.same("it matches", x.matches(0, 0, READ, 0), true);
        Check.same("another user", x.matches(0, 1, READ, 0), false);
        x.setRole(1, 11, true);
        Check.same("near by 1", x.matches(0, 1, READ, 0), true);
        x.addRule(true, ROLE, 2, 0);
        Check.same("a role does not have the one that holds it", x.matches(1, 1, WRITE, 0), false);
    }

    private static void tenPairs() {
        Check.about("At most 10 pairs of roles are APART");
        PolicyGate x = Gates.gate(1, 12, 1);
        for (int k = 1; k <= 10; k++) {
            Check.same("pair " + k, x.setApart(k - 1, k), k);
        }
        Check.refused("pair 11", () -> x.setApart(10, 11));
        x.setRole(0, 10, true);
        Check.same("the eleventh is none", x.setRole(0, 11, true), false);
        Check.refused("the tenth is one", () -> x.setRole(0, 9, true));
        x.setRole(0, 10, false);
        x.setRole(0, 0, true);
        Check.refused("the first is one", () -> x.setRole(0, 1, true));
    }

    private static void apartForNoUser() {
        Check.about("no user may HAVE both of a pair; what would make one have both is refused");
        PolicyGate x = Gates.gate(12, 12, 1);
        x.setApart(10, 11);
        x.setRole(11, 10, true);
        Check.refused("given to the last user", () -> x.setRole(11, 11, true));
        x.setHolds(0, 11, true);
        Check.refused("given along one", () -> x.setRole(11, 0, true));
        x.setRole(11, 1, true);
        Check.refused("along what is held then", () -> x.setHolds(1, 0, true));
        x.setRole(11, 2, true);
        Check.refused("both had", () -> x.setApart(1, 2));
        x.setRole(10, 11, true);
        Check.refused("the other of the pair", () -> x.setRole(10, 10, true));
        Check.same("users each with one", x.setApart(1, 11), 2);
        x.setHolds(3, 10, true);
        Check.same("a role may hold both", x.setHolds(3, 11, true), false);
        Check.refused("but nobody may have it", () -> x.setRole(0, 3, true));
    }

    private static void rootAndParents() {
        Check.about("At most 24 resources: 0 is the root, there at the beginning; each other one has a parent");
        PolicyGate x = new PolicyGate();
        Check.same("the root", x.far(0, 0), 0);
        for (int k = 1; k < 24; k++) {
            Check.same("resource " + k, x.addResource(k / 2), k);
        }
        Check.refused("the twenty-fifth", () -> x.addResource(0));
        Check.same("the last one's parent", x.far(23, 11), 1);
        Check.same("beneath the root along 11, 5, 2, 1", x.far(23, 0), 5);
        Check.same("not beneath another", x.far(23, 22), -1);
    }

    private static void beneath() {
        Check.about("beneath another one, if that is it itself, or its parent is beneath that; FAR by the steps up");
        PolicyGate x = Gates.gate(0, 0, 24);
        Check.same("itself", x.far(23, 23), 0);
        Check.same("its parent", x.far(23, 22), 1);
        Check.same("the root, the longest way", x.far(23, 0), 23);
        Check.same("not the other way", x.far(0, 23), -1);
        Check.same("not its child", x.far(22, 23), -1);
    }

    private static void labels() {
        Check.about("Each has a LABEL, 0 to 3 (0 at first)");
        PolicyGate x = Gates.gate(1, 0, 24);
        Check.same("the root", x.setLabel(0, 3), 0);
        Check.same("the last one, whatever its parent has", x.setLabel(23, 3), 0);
        for (int label = 0; label < 4; label++) {
            x.setLabel(0, label);
            Check.same("label " + label, x.setLabel(0, label), label);
        }
    }

    private static void walls() {
        Check.about("a WALL: a class, 0 to 3, and a house, 0 to 3, or none (at first)");
        PolicyGate x = Gates.gate(1, 0, 3);
        Gates.deepRule(x, true, 0, ALL, 0);
        x.access(0, READ, 1);
        x.setWall(2, 0, 1);
        Check.same("none is not class 0, house 0", x.decide(0, READ, 2), 1);
        Check.same("none", x.setWall(1, 0, 0), false);
        Check.same("class 0, house 0", x.decide(0, READ, 2), 5);
        for (int itsClass = 0; itsClass < 4; itsClass++) {
            for (int house = 0; house < 4; house++) {
                x.setWall(1, itsClass, house);
                x.setWall(2, itsClass, house);
                Check.same("the same house", x.decide(0, READ, 2), 1);
                x.setWall(2, itsClass, 3 - house);
                Check.same("another house", x.decide(0, READ, 2), 5);
                x.setWall(2, 3 - itsClass, 3 - house);
                Check.same("another class and house", x.decide(0, READ, 2), 1);
                x.setWall(2, 3 - itsClass, house);
                Check.same("another class", x.decide(0, READ, 2), 1);
            }
        }
    }

    private static void actions() {
        Check.about("Actions: 0 READ, 1 WRITE, 2 MAKE, 3 DROP, 4 SHARE; the action is in its set");
        PolicyGate x = Gates.gate(1, 0, 1);
        for (int action = 0; action < 5; action++) {
            x.addRule(true, 0, 1 << action, 0);
            x.addRule(true, 0, ALL - (1 << action), 0);
            for (int other = 0; other < 5; other++) {
                Check.same(action + " alone, " + other, x.matches(2 * action, 0, other, 0), other == action);
                Check.same("all but " + action + ", " + other, x.matches(2 * action + 1, 0, other, 0), other != action);
            }
        }
    }

    private static void thirtyRules() {
        Check.about("At most 30 RULES, numbered from 0");
        PolicyGate x = Gates.gate(12, 12, 24);
        for (int k = 0; k < 29; k++) {
            Check.same("rule", x.addRule(true, k % 12, 1 + 2, 23), k);
        }
        Check.same("the last", x.addRule(true, ROLE + 11, 16, 23), 29);
        Check.refused("one more", () -> x.addRule(true, 0, 1, 0));
        x.setRole(11, 11, true);
        Check.same("the last decides", x.why(11, SHARE, 23), 29);
        Check.same("it allows", x.decide(11, SHARE, 23), 1);
        Check.same("it is needed", x.isIdle(29), false);
        Check.same("there are others like the first", x.isIdle(0), true);
        x.dropRule(0);
        Check.same("one less", x.why(11, SHARE, 23), 28);
        Check.same("there is room again", x.addRule(false, 0, 1, 0), 29);
    }

    private static void ranks() {
        Check.about("it has a RANK, 0 to 9");
        PolicyGate x = Gates.gate(1, 0, 1);
        x.setWeighing(RANK);
        x.addRule(false, 0, 1, 0);
        x.addRule(true, 0, 1, 0);
        for (int rank = 0; rank < 9; rank++) {
            x.setRule(0, false, rank);
            x.setRule(1, false, rank + 1);
            Check.same("rank " + (rank + 1) + " above " + rank, x.decide(0, READ, 0), 1);
            x.setRule(0, false, rank + 1);
            Check.same("rank " + (rank + 1) + " twice", x.decide(0, READ, 0), 2);
        }
    }

    private static void hours() {
        Check.about("it holds from the first one up to the last one, both counted (past midnight, if last < first)");
        PolicyGate x = Gates.gate(1, 0, 1);
        int[][] terms = {{0, 0}, {23, 23}, {0, 23}, {23, 0}, {8, 7}, {7, 8}, {12, 12}, {1, 22}, {22, 1}, {13, 11}};
        for (int[] hours : terms) {
            int rule = x.addRule(true, 0, 1, 0);
            x.setTerms(rule, 0, hours[0], hours[1]);
        }
        for (int hour = 0; hour < 24; hour++) {
            String at = " at " + hour;
            Check.same("0 to 0" + at, x.matches(0, 0, READ, 0), hour == 0);
            Check.same("23 to 23" + at, x.matches(1, 0, READ, 0), hour == 23);
            Check.same("0 to 23" + at, x.matches(2, 0, READ, 0), true);
            Check.same("23 to 0" + at, x.matches(3, 0, READ, 0), hour == 23 || hour == 0);
            Check.same("8 to 7" + at, x.matches(4, 0, READ, 0), true);
            Check.same("7 to 8" + at, x.matches(5, 0, READ, 0), hour == 7 || hour == 8);
            Check.same("12 to 12" + at, x.matches(6, 0, READ, 0), hour == 12);
            Check.same("1 to 22" + at, x.matches(7, 0, READ, 0), hour != 0 && hour != 23);
            Check.same("22 to 1" + at, x.matches(8, 0, READ, 0), hour >= 22 || hour <= 1);
            Check.same("13 to 11" + at, x.matches(9, 0, READ, 0), hour != 12);
            x.goOn(60);
        }
        x.goOn(59);
        Check.same("the last minute of the last hour", x.matches(0, 0, READ, 0), true);
        x.goOn(1);
        Check.same("the minute behind it", x.matches(0, 0, READ, 0), false);
    }

    private static void whereARuleMatches() {
        Check.about("the resource is its own, or it is DEEP and the resource is beneath its own");
        PolicyGate x = Gates.gate(1, 0, 24);
        x.addRule(true, 0, 1, 1);
        Gates.deepRule(x, true, 0, 1, 1);
        Gates.deepRule(x, true, 0, 1, 0);
        Gates.deepRule(x, true, 0, 1, 23);
        Check.same("its own, not deep", x.matches(0, 0, READ, 1), true);
        Check.same("its own, deep", x.matches(1, 0, READ, 1), true);
        Check.same("beneath, not deep", x.matches(0, 0, READ, 2), false);
        Check.same("beneath, deep", x.matches(1, 0, READ, 2), true);
        Check.same("beneath by 22 steps, deep", x.matches(1, 0, READ, 23), true);
        Check.same("above, deep", x.matches(1, 0, READ, 0), false);
        Check.same("the root's, everywhere", x.matches(2, 0, READ, 23), true);
        Check.same("the last one's, there", x.matches(3, 0, READ, 23), true);
        Check.same("the last one's, above", x.matches(3, 0, READ, 22), false);
    }

    private static void forWhomARuleMatches() {
        Check.about("it is for that user, or a role that it HAS");
        PolicyGate x = Gates.gate(12, 12, 1);
        for (int k = 0; k < 12; k++) {
            x.addRule(true, k, 1, 0);
            x.addRule(true, ROLE + k, 1, 0);
        }
        x.setRole(0, 11, true);
        x.setRole(11, 0, true);
        for (int k = 0; k < 12; k++) {
            Check.same("user " + k + ", user 0", x.matches(2 * k, 0, READ, 0), k == 0);
            Check.same("user " + k + ", user 11", x.matches(2 * k, 11, READ, 0), k == 11);
            Check.same("role " + k + ", user 0", x.matches(2 * k + 1, 0, READ, 0), k == 11);
            Check.same("role " + k + ", user 11", x.matches(2 * k + 1, 11, READ, 0), k == 0);
        }
    }

    private static void none() {
        Check.about("0: otherwise (no RULE matches, whatever the way of weighing)");
        PolicyGate x = Gates.gate(1, 0, 2);
        x.addRule(false, 0, 2, 0);
        x.addRule(true, 0, 1, 1);
        for (int weighing = 0; weighing < 4; weighing++) {
            x.setWeighing(weighing);
            Check.same("weighing " + weighing, x.decide(0, READ, 0), 0);
            Check.same("weighing " + weighing, x.why(0, READ, 0), -1);
        }
    }

    private static void deny() {
        Check.about("0 DENY: the smallest number of those that deny, if there are any, otherwise of those that allow");
        PolicyGate x = Gates.gate(1, 1, 2);
        x.setRole(0, 0, true);
        Gates.deepRule(x, true, ROLE, 1, 0);
        x.addRule(true, 0, 1, 1);
        Check.same("none denies", x.why(0, READ, 1), 0);
        Gates.deepRule(x, false, ROLE, 1, 0);
        x.addRule(false, 0, 1, 1);
        x.setRule(3, false, 9);
        Check.same("two deny, neither far nor rank counts", x.why(0, READ, 1), 2);
        Check.same("it denies", x.decide(0, READ, 1), 2);
        x.dropRule(0);
        x.dropRule(0);
        Check.same("none allows", x.why(0, READ, 1), 0);
    }

    private static void allow() {
        Check.about("1 ALLOW: likewise, those that allow first");
        PolicyGate x = Gates.gate(1, 1, 2);
        x.setWeighing(ALLOW);
        x.setRole(0, 0, true);
        Gates.deepRule(x, false, ROLE, 1, 0);
        x.addRule(false, 0, 1, 1);
        Check.same("none allows", x.why(0, READ, 1), 0);
        Check.same("it denies", x.decide(0, READ, 1), 2);
        Gates.deepRule(x, true, ROLE, 1, 0);
        x.addRule(true, 0, 1, 1);
        x.setRule(3, false, 9);
        Check.same("two allow, neither far nor rank counts", x.why(0, READ, 1), 2);
        Check.same("it allows", x.decide(0, READ, 1), 1);
        x.dropRule(0);
        x.dropRule(0);
        Check.same("none denies", x.why(0, READ, 1), 0);
    }

    private static void nearestFar() {
        Check.about("2 NEAREST: of those whose resource the given one is beneath by the least FAR");
        PolicyGate x = withChain(Gates.gate(1, 12, 24), 12);
        x.setWeighing(NEAREST);
        x.setRole(0, 0, true);
        Gates.deepRule(x, false, 0, 1, 0);
        Check.same("far by 23", x.decide(0, READ, 23), 2);
        Gates.deepRule(x, true, ROLE + 11, 1, 1);
        Check.same("far by 22, though near by 12", x.decide(0, READ, 23), 1);
        Gates.deepRule(x, false, 0, 1, 22);
        Check.same("far by 1", x.decide(0, READ, 23), 2);
        x.addRule(true, ROLE + 11, 1, 23);
        Check.same("far by 0, though near by 12", x.decide(0, READ, 23), 1);
        Check.same("the rule", x.why(0, READ, 23), 3);
        Check.same("where the last is not", x.why(0, READ, 22), 2);
        Check.same("where the last two are not", x.why(0, READ, 21), 1);
        Check.same("the root", x.why(0, READ, 0), 0);
    }

    private static void nearestUser() {
        Check.about("2 NEAREST: those that are for the user itself, if there are any");
        PolicyGate x = Gates.gate(1, 1, 1);
        x.setWeighing(NEAREST);
        x.setRole(0, 0, true);
        x.addRule(false, ROLE, 1, 0);
        Check.same("there are none", x.decide(0, READ, 0), 2);
        x.addRule(true, 0, 1, 0);
        Check.same("before a role near by 1 that denies", x.decide(0, READ, 0), 1);
        Check.same("the rule", x.why(0, READ, 0), 1);
    }

    private static void nearestRole() {
        Check.about("2 NEAREST: otherwise those for the roles that it has near by the least number");
        PolicyGate x = withChain(Gates.gate(1, 12, 1), 12);
        x.setWeighing(NEAREST);
        x.setRole(0, 0, true);
        x.addRule(false, ROLE + 11, 1, 0);
        Check.same("12", x.why(0, READ, 0), 0);
        x.addRule(true, ROLE + 10, 1, 0);
        Check.same("11 before 12", x.why(0, READ, 0), 1);
        x.addRule(false, ROLE + 1, 1, 0);
        Check.same("2 before 11", x.why(0, READ, 0), 2);
        x.addRule(true, ROLE, 1, 0);
        Check.same("1 before 2", x.why(0, READ, 0), 3);
        x.setRole(0, 11, true);
        Check.same("the least of its numbers counts: 1 denies", x.why(0, READ, 0), 0);
    }

    private static void nearestAsDeny() {
        Check.about("2 NEAREST: of these as with 0");
        PolicyGate x = Gates.gate(1, 2, 1);
        x.setWeighing(NEAREST);
        x.setRole(0, 0, true);
        x.setRole(0, 1, true);
        x.addRule(true, ROLE, 1, 0);
        x.addRule(true, ROLE + 1, 1, 0);
        Check.same("roles, none denies", x.why(0, READ, 0), 0);
        x.addRule(false, ROLE + 1, 1, 0);
        x.addRule(false, ROLE, 1, 0);
        Check.same("roles, two deny", x.why(0, READ, 0), 2);
        x.addRule(true, 0, 1, 0);
        x.addRule(true, 0, 1, 0);
        Check.same("itself, none denies", x.why(0, READ, 0), 4);
        x.addRule(false, 0, 1, 0);
        x.addRule(false, 0, 1, 0);
        Check.same("itself, two deny", x.why(0, READ, 0), 6);
    }

    private static void rankAsDeny() {
        Check.about("3 RANK: of those with the greatest RANK as with 0");
        PolicyGate x = Gates.gate(1, 1, 2);
        x.setWeighing(RANK);
        x.setRole(0, 0, true);
        x.addRule(false, 0, 1, 1);
        Gates.deepRule(x, true, ROLE, 1, 0);
        x.setRule(1, true, 1);
        Check.same("1 above 0, however far", x.why(0, READ, 1), 1);
        Gates.deepRule(x, true, ROLE, 1, 0);
        x.setRule(2, true, 1);
        Check.same("two of 1, none denies", x.why(0, READ, 1), 1);
        x.addRule(false, ROLE, 1, 1);
        x.setRule(3, false, 1);
        x.addRule(false, ROLE, 1, 1);
        x.setRule(4, false, 1);
        Check.same("two of 1 deny", x.why(0, READ, 1), 3);
        x.setRule(2, true, 9);
        Check.same("9 above 1", x.why(0, READ, 1), 2);
        x.setRule(4, false, 9);
        Check.same("two of 9, one denies", x.why(0, READ, 1), 4);
    }

    private static void thirtyGrants() {
        Check.about("At most 30 GRANTS, numbered from 0");
        PolicyGate x = Gates.gate(12, 0, 24);
        x.addRule(true, 10, 16, 23);
        for (int k = 0; k < 30; k++) {
            Check.same("grant", x.grant(k == 29 ? 10 : 9, 11, SHARE, 23, 0, 60), k);
        }
        Check.refused("one more", () -> x.grant(10, 11, SHARE, 23, 0, 60));
        Check.same("the last is good", x.isGood(29), true);
        Check.same("the one before it is not", x.isGood(28), false);
        Check.same("the last gives it", x.why(11, SHARE, 23), 29);
        Check.same("it is allowed", x.decide(11, SHARE, 23), 3);
    }

    private static void thereBelowTheEnd() {
        Check.about("it is there as long as the CLOCK is below that");
        PolicyGate x = Gates.gate(2, 0, 1);
        x.addRule(true, 0, 17, 0);
        x.goOn(7);
        x.grant(0, 1, READ, 0, 0, 1);
        x.grant(0, 1, READ, 0, 0, 2);
        x.grant(0, 1, READ, 0, 0, 10000);
        Check.same("one minute below", x.isGood(0), true);
        x.goOn(1);
        Check.same("at its end", x.isGood(0), false);
        Check.same("one minute below", x.isGood(1), true);
        x.goOn(1);
        Check.same("at its end", x.isGood(1), false);
        x.goOn(9997);
        Check.same("one minute below", x.isGood(2), true);
        Check.same("it still gives", x.decide(1, READ, 0), 3);
        x.goOn(1);
        Check.same("at its end", x.isGood(2), false);
        Check.same("it gives no more", x.decide(1, READ, 0), 0);
    }

    private static void goodOnThatResourceItself() {
        Check.about("the one from whom it is may do the action, and SHARE, on that resource itself");
        PolicyGate x = Gates.gate(2, 0, 3);
        x.grant(0, 1, READ, 1, 0, 60);
        x.addRule(true, 0, 17, 0);
        Check.same("above it", x.isGood(0), false);
        x.addRule(true, 0, 17, 2);
        Check.same("above and beneath it", x.isGood(0), false);
        x.addRule(true, 0, 1, 1);
        Check.same("SHARE above and beneath it", x.isGood(0), false);
        x.addRule(true, 0, 16, 1);
        Check.same("on it", x.isGood(0), true);
        x.dropRule(2);
        Check.same("the action above and beneath it", x.isGood(0), false);
        x.setRule(0, true, 0);
        Check.same("above it, but deep", x.isGood(0), true);
        x.dropRule(0);
        x.dropRule(0);
        x.addRule(true, 0, 1, 1);
        Check.same("on it alone, it gives what is beneath", x.decide(1, READ, 2), 3);
        x.grant(0, 1, READ, 2, 0, 60);
        Check.same("of each grant its own resource", x.isGood(1), false);
    }

    private static void goodByBothRights() {
        Check.about("may do the action, and SHARE");
        PolicyGate x = Gates.gate(2, 0, 1);
        for (int action = 0; action < 5; action++) {
            x.grant(0, 1, action, 0, 0, 60);
        }
        x.addRule(true, 0, 15, 0);
        for (int action = 0; action < 5; action++) {
            Check.same("without SHARE, " + action, x.isGood(action), false);
        }
        x.dropRule(0);
        x.addRule(true, 0, 16, 0);
        for (int action = 0; action < 5; action++) {
            Check.same("SHARE alone, " + action, x.isGood(action), action == SHARE);
        }
        x.addRule(true, 0, 8, 0);
        for (int action = 0; action < 5; action++) {
            Check.same("SHARE and DROP, " + action, x.isGood(action), action == SHARE || action == 3);
        }
    }

    private static void goodByRulesAlone() {
        Check.about("by RULES alone: it tells 1");
        PolicyGate x = Gates.gate(3, 0, 2);
        Gates.deepRule(x, true, 0, ALL, 0);
        x.grant(1, 2, READ, 0, 0, 60);
        x.grant(0, 1, READ, 0, 0, 60);
        x.grant(0, 1, SHARE, 0, 0, 60);
        Check.same("it may READ by a grant", x.decide(1, READ, 0), 3);
        Check.same("it may SHARE by a grant", x.decide(1, SHARE, 0), 3);
        Check.same("3 is not 1", x.isGood(0), false);
        x.addRule(true, 1, 1, 0);
        Check.same("1 and 3", x.isGood(0), false);
        x.addRule(true, 1, 16, 0);
        Check.same("1 and 1", x.isGood(0), true);
        x.addRule(false, 1, 16, 0);
        Check.same("1 and 2", x.isGood(0), false);
        x.dropRule(3);
        x.setLabel(0, 1);
        Check.same("4 and 1", x.isGood(0), false);
        x.setLabel(0, 0);
        x.setWall(0, 0, 0);
        x.setWall(1, 0, 1);
        Gates.deepRule(x, true, 1, ALL, 1);
        Check.same("before", x.isGood(0), true);
        x.access(1, READ, 1);
        Check.same("5 and 5", x.isGood(0), false);
    }

    private static void passedOnFromASmallerNumber() {
        Check.about("there is a GOOD GRANT to it of the same action, whose number is smaller");
        PolicyGate x = Gates.gate(4, 0, 1);
        x.addRule(true, 0, 17, 0);
        x.grant(1, 2, READ, 0, 0, 60);
        x.grant(0, 1, READ, 0, 1, 60);
        x.grant(1, 2, READ, 0, 0, 60);
        Check.same("a greater number", x.isGood(0), false);
        Check.same("the number before it", x.isGood(2), true);
        x.grant(1, 2, WRITE, 0, 0, 60);
        Check.same("another action", x.isGood(3), false);
        x.grant(3, 2, READ, 0, 0, 60);
        Check.same("not to it", x.isGood(4), false);
        x.grant(2, 3, READ, 0, 0, 60);
        Check.same("it ends with the hands", x.isGood(5), false);
    }

    private static void passedOnWithHands() {
        Check.about("whose HANDS are more than its own (HANDS 0 to 3)");
        for (int hands = 0; hands < 4; hands++) {
            PolicyGate x = Gates.gate(3, 0, 1);
            x.addRule(true, 0, 17, 0);
            x.grant(0, 1, READ, 0, hands, 60);
            for (int own = 0; own < 4; own++) {
                int grant = x.grant(1, 2, READ, 0, own, 60);
                Check.same(hands + " more than " + own, x.isGood(grant), hands > own);
            }
        }
        PolicyGate chain = Gates.gate(6, 0, 1);
        chain.addRule(true, 0, 17, 0);
        for (int k = 0; k < 5; k++) {
            chain.grant(k, k + 1, READ, 0, Math.max(3 - k, 0), 60);
            Check.same("the chain of 3, 2, 1, 0, 0 at " + k, chain.isGood(k), k < 4);
        }
        Check.same("the last of the chain", chain.decide(4, READ, 0), 3);
        Check.same("behind the chain", chain.decide(5, READ, 0), 0);
    }

    private static void passedOnBeneath() {
        Check.about("a GOOD GRANT on that resource, or one that it is beneath");
        PolicyGate x = Gates.gate(3, 0, 24);
        Gates.deepRule(x, true, 0, 17, 0);
        x.grant(0, 1, READ, 1, 1, 60);
        x.grant(1, 2, READ, 1, 0, 60);
        x.grant(1, 2, READ, 2, 0, 60);
        x.grant(1, 2, READ, 23, 0, 60);
        x.grant(1, 2, READ, 0, 0, 60);
        Check.same("on it", x.isGood(1), true);
        Check.same("beneath by 1", x.isGood(2), true);
        Check.same("beneath by 22", x.isGood(3), true);
        Check.same("above", x.isGood(4), false);
        Check.same("it gives no more than it is on", x.decide(2, READ, 0), 0);
    }

    private static void passedOnWhileGood() {
        Check.about("there is a GOOD GRANT to it (not one that has ended, or rests on nothing)");
        PolicyGate x = Gates.gate(4, 0, 1);
        x.addRule(true, 0, 17, 0);
        x.grant(0, 1, READ, 0, 2, 10);
        x.grant(1, 2, READ, 0, 1, 60);
        x.grant(2, 3, READ, 0, 0, 60);
        x.goOn(9);
        Check.same("as long as the first is there", x.isGood(2), true);
        x.goOn(1);
        Check.same("the second", x.isGood(1), false);
        Check.same("the third", x.isGood(2), false);
        x.addRule(true, 1, 17, 0);
        Check.same("in the place of the first stand rights", x.isGood(1), true);
        Check.same("the third rests on them", x.isGood(2), true);
        x.revoke(1);
        Check.same("revoked", x.isGood(2), false);
    }

    private static void passedOnWhateverIsDecided() {
        Check.about("what is DECIDED about it is not asked then");
        PolicyGate x = Gates.gate(3, 0, 2);
        x.addRule(true, 0, 31, 0);
        x.grant(0, 1, READ, 0, 1, 60);
        x.grant(1, 2, READ, 1, 0, 60);
        x.addRule(false, 1, 31, 1);
        Check.same("the giver is denied", x.decide(1, READ, 1), 2);
        Check.same("good all the same", x.isGood(1), true);
        x.setLabel(1, 1);
        Check.same("the giver is kept off", x.decide(1, READ, 1), 4);
        Check.same("good all the same", x.isGood(1), true);
        x.setUser(2, 1, 0);
        Check.same("the one it is to may", x.decide(2, READ, 1), 3);
    }

    private static void decidedByLabel() {
        Check.about("4: READ, if the LABEL is above the CLEARANCE; WRITE, MAKE or DROP, if below; SHARE never");
        for (int clearance = 0; clearance < 4; clearance++) {
            PolicyGate x = new PolicyGate();
            x.addUser(clearance, 0);
            x.addRule(true, 0, ALL, 0);
            for (int label = 0; label < 4; label++) {
                x.setLabel(0, label);
                String at = ", label " + label + ", clearance " + clearance;
                Check.same("READ" + at, x.decide(0, READ, 0), label > clearance ? 4 : 1);
                for (int action = 1; action < 4; action++) {
                    Check.same(action + at, x.decide(0, action, 0), label < clearance ? 4 : 1);
                }
                Check.same("SHARE" + at, x.decide(0, SHARE, 0), 1);
            }
        }
    }

    private static void decidedByWall() {
        Check.about("5: the user has done any action on one that has now the same class and another house");
        for (int action = 0; action < 5; action++) {
            PolicyGate x = Gates.gate(2, 0, 3);
            Gates.deepRule(x, true, 0, ALL, 0);
            Gates.deepRule(x, true, 1, ALL, 0);
            x.setWall(1, 1, 2);
            x.setWall(2, 1, 3);
            x.decide(0, action, 1);
            Check.same("asked alone", x.decide(0, READ, 2), 1);
            x.addRule(false, 0, ALL, 1);
            x.access(0, action, 1);
            Check.same("tried in vain", x.decide(0, READ, 2), 1);
            x.dropRule(2);
            x.access(0, action, 1);
            for (int other = 0; other < 5; other++) {
                Check.same("done " + action + ", then " + other, x.decide(0, other, 2), 5);
                Check.same("in the same house", x.decide(0, other, 1), 1);
                Check.same("without a wall", x.decide(0, other, 0), 1);
                Check.same("another user", x.decide(1, other, 2), 1);
            }
        }
    }

    private static void wallsOfOthers() {
        Check.about("5: the user itself, on one that has a WALL (of users next to each other, the last class)");
        PolicyGate x = Gates.gate(3, 0, 4);
        for (int user = 0; user < 3; user++) {
            Gates.deepRule(x, true, user, ALL, 0);
        }
        x.setWall(1, 3, 0);
        x.setWall(2, 3, 1);
        x.setWall(3, -1, 2);
        x.access(1, READ, 1);
        x.access(1, READ, 3);
        x.access(2, READ, 3);
        for (int user = 0; user < 3; user++) {
            Check.same("without a wall, " + user, x.decide(user, READ, 3), 1);
            Check.same("the house of user 1, " + user, x.decide(user, READ, 1), 1);
            Check.same("another house, " + user, x.decide(user, READ, 2), user == 1 ? 5 : 1);
        }
        PolicyGate y = Gates.gate(3, 0, 24);
        for (int user = 0; user < 3; user++) {
            Gates.deepRule(y, true, user, ALL, 0);
        }
        y.setWall(10, 0, 1);
        y.access(1, READ, 0);
        y.access(1, READ, 23);
        for (int user = 0; user < 3; user++) {
            Check.same("user 1 was on the first and the last one, without walls, " + user, y.decide(user, READ, 10), 1);
        }
    }

    private static void wallsAsTheyAreNow() {
        Check.about("5: one that has now the same class and another house");
        PolicyGate x = Gates.gate(1, 0, 3);
        Gates.deepRule(x, true, 0, ALL, 0);
        x.access(0, READ, 1);
        x.access(0, READ, 2);
        x.setWall(1, 2, 0);
        Check.same("the other has no wall", x.decide(0, READ, 1), 1);
        x.setWall(2, 2, 3);
        Check.same("each keeps off from the other", x.decide(0, READ, 1), 5);
        Check.same("each keeps off from the other", x.decide(0, READ, 2), 5);
        x.setWall(2, -1, 3);
        Check.same("no wall any more", x.decide(0, READ, 1), 1);
        x.setWall(2, 3, 3);
        Check.same("another class", x.decide(0, READ, 1), 1);
        x.setWall(2, 2, 0);
        Check.same("the same house", x.decide(0, READ, 1), 1);
    }

    private static void decidedInOrder() {
        Check.about("the first of these that is so: 4, 5, 1 or 2, 3, 0");
        PolicyGate x = Gates.gate(2, 0, 3);
        Gates.deepRule(x, true, 0, ALL, 0);
        Check.same("nothing is so", x.decide(1, READ, 2), 0);
        x.grant(0, 1, READ, 2, 0, 1000);
        Check.same("3", x.decide(1, READ, 2), 3);
        x.addRule(true, 1, 1, 2);
        Check.same("1 before 3", x.decide(1, READ, 2), 1);
        x.addRule(false, 1, 1, 2);
        Check.same("2 before 3", x.decide(1, READ, 2), 2);
        x.setWall(1, 0, 0);
        x.setWall(2, 0, 1);
        x.addRule(true, 1, 1, 1);
        x.access(1, READ, 1);
        Check.same("5 before 2", x.decide(1, READ, 2), 5);
        x.dropRule(2);
        Check.same("5 before 1", x.decide(1, READ, 2), 5);
        x.dropRule(1);
        Check.same("5 before 3", x.decide(1, READ, 2), 5);
        x.setLabel(2, 1);
        Check.same("4 before 5", x.decide(1, READ, 2), 4);
        x.setWall(2, -1, 0);
        Check.same("4 before 3", x.decide(1, READ, 2), 4);
        x.addRule(true, 1, 1, 2);
        Check.same("4 before 1", x.decide(1, READ, 2), 4);
    }

    private static void allowedWithOneAndThree() {
        Check.about("With 1 and 3 it is ALLOWED");
        PolicyGate x = Gates.gate(2, 0, 3);
        x.addRule(true, 0, 17, 0);
        x.addRule(false, 0, 2, 0);
        x.grant(0, 1, READ, 0, 0, 60);
        x.setLabel(2, 1);
        x.addRule(true, 0, 1, 1);
        x.setWall(0, 0, 0);
        x.setWall(1, 0, 1);
        Check.same("1", x.access(0, READ, 0), 1);
        Check.same("1 is allowed", x.who(READ, 0), 3);
        Check.same("3", x.access(1, READ, 0), 3);
        Check.same("0", x.access(0, 2, 0), 0);
        Check.same("0 is not", x.who(2, 0), 0);
        Check.same("2", x.access(0, WRITE, 0), 2);
        Check.same("2 is not", x.who(WRITE, 0), 0);
        Check.same("4", x.access(0, READ, 2), 4);
        Check.same("4 is not", x.who(READ, 2), 0);
        Check.same("5", x.access(0, READ, 1), 5);
        Check.same("5 is not", x.who(READ, 1), 0);
        Check.same("done with 1", x.done(0, 0), 1);
        Check.same("done with 3", x.done(1, 0), 1);
        Check.same("not done with 4", x.done(0, 2), 0);
        Check.same("not done with 5", x.done(0, 1), 0);
    }
}
