/**
 * The sentences of promises 1 to 33 that name a boundary, one by one, but for what a call throws: that is told in
 * RefusalTest. The answers are worked out by hand.
 */
public final class PromiseEdgeTest {
    private static final int READ = 0;
    private static final int WRITE = 1;
    private static final int SHARE = 4;
    private static final int ALL = 31;
    private static final int ROLE = 12;
    private static final int BIG = Integer.MAX_VALUE;
    private static final int SMALL = Integer.MIN_VALUE;

    private PromiseEdgeTest() {
    }

    public static void main(String[] args) {
        newGate();
        addUser();
        addRole();
        addResource();
        setRole();
        setHolds();
        setApart();
        apartAlready();
        setUser();
        clearanceFromNowOn();
        setLabel();
        setWall();
        howMany();
        near();
        far();
        addRule();
        setRule();
        setTerms();
        dropRule();
        dropRuleFromFull();
        dropRuleInBetween();
        dropRuleGoesWithAll();
        setWeighing();
        weighingOfEachQuestion();
        matchesNow();
        goOn();
        grant();
        revoke();
        grantsEndedOrNot();
        isGood();
        decide();
        whyRule();
        whyGrant();
        whyNothing();
        whyNothingThoughGranted();
        whyOfEach();
        access();
        counted();
        done();
        Check.end("PromiseEdgeTest");
    }

    private static void newGate() {
        Check.about("Promise 1: a gate with the root alone, without RULES, weighing by DENY");
        PolicyGate x = new PolicyGate();
        Check.same("users", x.users(), 0);
        Check.same("roles", x.roles(), 0);
        Check.same("resources", x.resources(), 1);
        Check.same("rules", x.rules(), 0);
        Check.same("grants", x.grants(), 0);
        Check.same("the clock", x.clock(), 0);
        Check.same("weighing", x.setWeighing(0), 0);
        Check.same("who, without users", x.who(SHARE, 0), 0);
        Check.same("contradictions, without rules", x.contradictions(), 0);
        Check.same("openness, without users", x.openness(), 0.0);
        for (int decision = 0; decision < 6; decision++) {
            Check.same("counted " + decision, x.counted(decision), 0);
        }
        x.addRole();
        x.addRole();
        Check.same("no roles are apart", x.setApart(0, 1), 1);
    }

    private static void addUser() {
        Check.about("Promise 2: adds a user without roles; returns its number");
        PolicyGate x = Gates.gate(0, 12, 1);
        for (int user = 0; user < 12; user++) {
            Check.same("the number", x.addUser(3, 255), user);
            for (int role = 0; role < 12; role++) {
                Check.same("role " + role, x.near(user, role), -1);
            }
        }
    }

    private static void addRole() {
        Check.about("Promise 3: adds a role that holds none; returns its number");
        PolicyGate x = new PolicyGate();
        for (int role = 0; role < 12; role++) {
            Check.same("the number", x.addRole(), role);
        }
        Check.same("the last holds none", x.setHolds(11, 0, true), false);
        Check.same("the first holds none", x.setHolds(0, 1, true), false);
    }

    private static void addResource() {
        Check.about("Promise 4: adds a resource; returns its number");
        PolicyGate x = new PolicyGate();
        for (int resource = 1; resource < 24; resource++) {
            Check.same("the number", x.addResource(resource - 1), resource);
            Check.same("its parent", x.far(resource, resource - 1), 1);
        }
    }

    private static void setRole() {
        Check.about("Promise 5: returns whether it was in its set");
        PolicyGate x = Gates.gate(12, 12, 1);
        x.setHolds(10, 11, true);
        Check.same("not yet", x.setRole(11, 10, true), false);
        Check.same("had along another is not in the set", x.setRole(11, 11, true), false);
        Check.same("it was", x.setRole(11, 11, true), true);
        Check.same("it was, and is no more", x.setRole(11, 11, false), true);
        Check.same("had along another still", x.near(11, 11), 2);
        Check.same("it was not", x.setRole(11, 11, false), false);
        Check.same("the user before it", x.setRole(10, 11, false), false);
    }

    private static void setHolds() {
        Check.about("Promise 6: returns whether it did hold it");
        PolicyGate x = Gates.gate(1, 12, 1);
        Check.same("not yet", x.setHolds(11, 10, true), false);
        Check.same("it did", x.setHolds(11, 10, true), true);
        Check.same("not the other way round", x.setHolds(10, 11, false), false);
        Check.same("nor did that change it", x.setHolds(11, 10, false), true);
        Check.same("not any more", x.setHolds(11, 10, false), false);
        x.setHolds(0, 1, true);
        x.setHolds(1, 2, true);
        Check.same("along another is not to hold it itself", x.setHolds(0, 2, false), false);
    }

    private static void setApart() {
        Check.about("Promise 7: returns how many pairs are APART then");
        PolicyGate x = Gates.gate(0, 12, 1);
        int pairs = 0;
        for (int role = 11; pairs < 10; role--) {
            pairs++;
            Check.same("pairs", x.setApart(11, role - 1), pairs);
        }
    }

    private static void apartAlready() {
        Check.about("Promise 7: IllegalStateException if they are APART already, whichever came first");
        PolicyGate x = Gates.gate(0, 12, 1);
        for (int k = 1; k < 5; k++) {
            x.setApart(0, k);
            x.setApart(k + 4, 11);
        }
        for (int k = 1; k < 5; k++) {
            int role = k;
            Check.refused("0 and " + k, () -> x.setApart(0, role));
            Check.refused(k + " and 0", () -> x.setApart(role, 0));
            Check.refused((k + 4) + " and 11", () -> x.setApart(role + 4, 11));
            Check.refused("11 and " + (k + 4), () -> x.setApart(11, role + 4));
        }
        Check.same("a new pair", x.setApart(8, 1), 9);
        Check.same("a new pair", x.setApart(0, 11), 10);
    }

    private static void setUser() {
        Check.about("Promise 8: returns its TRAITS before");
        PolicyGate x = new PolicyGate();
        x.addUser(0, 255);
        x.addUser(0, 1);
        Check.same("all", x.setUser(0, 0, 0), 255);
        Check.same("none", x.setUser(0, 0, 128), 0);
        Check.same("the eighth", x.setUser(0, 0, 128), 128);
        Check.same("another user's", x.setUser(1, 0, 1), 1);
    }

    private static void clearanceFromNowOn() {
        Check.about("Promises 2 and 8: its CLEARANCE");
        PolicyGate x = new PolicyGate();
        x.addUser(0, 0);
        x.addUser(3, 0);
        x.addUser(1, 0);
        x.setLabel(0, 2);
        Check.same("0", x.decide(0, READ, 0), 4);
        Check.same("3", x.decide(1, READ, 0), 0);
        Check.same("1", x.decide(2, READ, 0), 4);
        for (int clearance = 0; clearance < 4; clearance++) {
            x.setUser(2, clearance, 0);
            Check.same("READ with " + clearance, x.decide(2, READ, 0), clearance < 2 ? 4 : 0);
            Check.same("WRITE with " + clearance, x.decide(2, WRITE, 0), clearance > 2 ? 4 : 0);
        }
        Check.same("the others as before", x.decide(0, READ, 0), 4);
        Check.same("the others as before", x.decide(1, WRITE, 0), 4);
    }

    private static void setLabel() {
        Check.about("Promise 9: returns the one before");
        PolicyGate x = Gates.gate(0, 0, 24);
        Check.same("0 at first", x.setLabel(23, 3), 0);
        Check.same("the greatest", x.setLabel(23, 0), 3);
        Check.same("the smallest", x.setLabel(23, 1), 0);
        Check.same("beside it", x.setLabel(22, 0), 0);
    }

    private static void setWall() {
        Check.about("Promise 10: -1 for none, its house is not looked at; returns whether it had a WALL");
        PolicyGate x = Gates.gate(1, 0, 24);
        Check.same("none at first", x.setWall(23, -1, 4), false);
        Check.same("still none", x.setWall(23, 0, 0), false);
        Check.same("class 0, house 0 is one", x.setWall(23, 3, 3), true);
        Check.same("class 3, house 3 is one", x.setWall(23, -1, BIG), true);
        Check.same("none", x.setWall(23, -1, SMALL), false);
        Gates.deepRule(x, true, 0, ALL, 0);
        x.setWall(1, 2, 0);
        x.access(0, READ, 1);
        x.setWall(2, 2, 1);
        Check.same("a wall keeps off", x.decide(0, READ, 2), 5);
        x.setWall(2, -1, 1);
        Check.same("none keeps not off", x.decide(0, READ, 2), 1);
    }

    private static void howMany() {
        Check.about("Promises 11, 12, 13, 20 and 27: how many there are, none and full");
        PolicyGate x = new PolicyGate();
        Check.same("no users", x.users(), 0);
        Check.same("no roles", x.roles(), 0);
        Check.same("the root", x.resources(), 1);
        Check.same("no rules", x.rules(), 0);
        Check.same("no grants", x.grants(), 0);
        for (int k = 0; k < 30; k++) {
            if (k < 12) {
                x.addUser(0, 0);
                x.addRole();
            }
            if (k < 23) {
                x.addResource(0);
            }
        }
        for (int k = 0; k < 30; k++) {
            x.addRule(true, 0, 1, 0);
            x.grant(0, 1, 0, 0, 0, 1);
        }
        Check.same("all users", x.users(), 12);
        Check.same("all roles", x.roles(), 12);
        Check.same("all resources", x.resources(), 24);
        Check.same("all rules", x.rules(), 30);
        Check.same("all grants", x.grants(), 30);
    }

    private static void near() {
        Check.about("Promise 14: by how much the user has it near; -1 if it does not HAVE it");
        PolicyGate x = Gates.gate(12, 12, 1);
        for (int k = 11; k > 0; k--) {
            x.setHolds(k, k - 1, true);
        }
        x.setRole(11, 11, true);
        Check.same("the least", x.near(11, 11), 1);
        Check.same("the greatest", x.near(11, 0), 12);
        Check.same("another user", x.near(10, 0), -1);
        x.setRole(10, 0, true);
        Check.same("not those that hold it", x.near(10, 1), -1);
    }

    private static void far() {
        Check.about("Promise 15: by how much the one is FAR beneath the other; -1 if it is not beneath it");
        PolicyGate x = Gates.gate(0, 0, 23);
        x.addResource(0);
        Check.same("itself", x.far(0, 0), 0);
        Check.same("the farthest", x.far(22, 0), 22);
        Check.same("above", x.far(0, 22), -1);
        Check.same("beside", x.far(23, 22), -1);
        Check.same("beside", x.far(22, 23), -1);
        Check.same("beside, of the same parent", x.far(23, 1), -1);
    }

    private static void addRule() {
        Check.about("Promise 16: not DEEP, with the RANK 0, without TRAITS, for all hours; returns its number");
        PolicyGate x = Gates.gate(1, 0, 2);
        for (int k = 0; k < 29; k++) {
            x.addRule(false, 0, 2, 0);
        }
        Check.same("the number of the last", x.addRule(true, 0, 1, 0), 29);
        x.setRule(29, true, 9);
        x.setTerms(29, 255, 5, 4);
        x.dropRule(29);
        Check.same("its number again", x.addRule(true, 0, 1, 0), 29);
        Check.same("not deep", x.matches(29, 0, READ, 1), false);
        for (int hour = 0; hour < 24; hour++) {
            Check.same("without traits, at " + hour, x.matches(29, 0, READ, 0), true);
            x.goOn(60);
        }
        Check.same("rank", x.setRule(29, false, 0), 0);
        Check.same("traits", x.setTerms(29, 0, 0, 0), 0);
    }

    private static void setRule() {
        Check.about("Promise 17: returns its RANK before");
        PolicyGate x = Gates.gate(1, 0, 1);
        for (int k = 0; k < 30; k++) {
            x.addRule(true, 0, 1, 0);
        }
        Check.same("0 at first", x.setRule(29, true, 9), 0);
        Check.same("the greatest", x.setRule(29, true, 0), 9);
        Check.same("the smallest", x.setRule(29, true, 1), 0);
        Check.same("another", x.setRule(28, true, 1), 0);
        Check.same("the first", x.setRule(0, true, 1), 0);
    }

    private static void setTerms() {
        Check.about("Promise 18: returns the TRAITS that one needed before");
        PolicyGate x = Gates.gate(1, 0, 1);
        for (int k = 0; k < 30; k++) {
            x.addRule(true, 0, 1, 0);
        }
        Check.same("none at first", x.setTerms(29, 255, 0, 23), 0);
        Check.same("all", x.setTerms(29, 0, 23, 0), 255);
        Check.same("none", x.setTerms(29, 1, 0, 0), 0);
        Check.same("another", x.setTerms(28, 1, 0, 0), 0);
    }

    private static void dropRule() {
        Check.about("Promise 19: those with greater numbers have one less; returns how many there are then");
        PolicyGate x = Gates.gate(5, 0, 1);
        for (int k = 0; k < 5; k++) {
            x.addRule(true, k, 1, 0);
            x.setRule(k, false, k + 1);
        }
        Check.same("one in between", x.dropRule(2), 4);
        Check.same("the one before it", x.why(1, READ, 0), 1);
        Check.same("it is gone", x.decide(2, READ, 0), 0);
        Check.same("the one behind it", x.why(3, READ, 0), 2);
        Check.same("the last", x.why(4, READ, 0), 3);
        Check.same("the first", x.dropRule(0), 3);
        Check.same("the one behind it", x.why(1, READ, 0), 0);
        Check.same("the last", x.why(4, READ, 0), 2);
        Check.same("the last goes", x.dropRule(2), 2);
        Check.same("it is gone", x.decide(4, READ, 0), 0);
        Check.same("those before it stay", x.why(3, READ, 0), 1);
        Check.same("their ranks with them", x.setRule(1, false, 0), 4);
        Check.same("their ranks with them", x.setRule(0, false, 0), 2);
        x.dropRule(1);
        Check.same("the only one", x.dropRule(0), 0);
        Check.same("nothing is left", x.decide(1, READ, 0), 0);
        Check.same("the numbers begin anew", x.addRule(true, 0, 1, 0), 0);
    }

    private static void dropRuleFromFull() {
        Check.about("Promise 19: of 30, each with all that is told of it");
        PolicyGate x = Gates.gate(12, 0, 24);
        for (int k = 0; k < 30; k++) {
            x.addRule(k % 2 == 0, k % 12, 1 + k, k % 24);
            x.setRule(k, k % 3 == 0, k % 10);
            x.setTerms(k, k, k % 24, k % 24);
        }
        Check.same("then", x.dropRule(0), 29);
        Check.refused("not thirty-one", () -> {
            x.addRule(true, 0, 1, 0);
            x.addRule(true, 0, 1, 0);
        });
        for (int k = 1; k < 30; k++) {
            Check.same("rank of " + k, x.setRule(k - 1, k % 3 == 0, 0), k % 10);
            Check.same("traits of " + k, x.setTerms(k - 1, 0, 0, 23), k);
            int action = Integer.numberOfTrailingZeros(1 + k);
            Check.same("its user and action " + k, x.matches(k - 1, k % 12, action, k % 24), true);
            Check.same("another user " + k, x.matches(k - 1, (k + 1) % 12, READ, k % 24), false);
        }
    }

    private static void dropRuleInBetween() {
        Check.about("Promise 19: those with smaller numbers stay as they are");
        PolicyGate x = Gates.gate(1, 0, 1);
        x.setUser(0, 0, 1);
        x.addRule(true, 0, 1, 0);
        x.setTerms(0, 1, 1, 1);
        x.addRule(true, 0, 1, 0);
        x.setTerms(1, 2, 0, 6);
        x.addRule(true, 0, 1, 0);
        x.setTerms(2, 4, 7, 8);
        x.dropRule(1);
        Check.same("the hour before its first", x.matches(0, 0, READ, 0), false);
        x.goOn(60);
        Check.same("its hour", x.matches(0, 0, READ, 0), true);
        x.goOn(60);
        Check.same("the hour behind its last", x.matches(0, 0, READ, 0), false);
        Check.same("its traits", x.setTerms(0, 0, 7, 7), 1);
        Check.same("the traits of the one behind it", x.setTerms(1, 0, 7, 7), 4);
    }

    private static void dropRuleGoesWithAll() {
        Check.about("Promise 19: what is told of a RULE goes with it to its new number");
        PolicyGate x = Gates.gate(1, 0, 2);
        x.addRule(true, 0, 1, 0);
        x.addRule(false, 0, 1, 0);
        x.setRule(1, true, 0);
        x.setTerms(1, 0, 1, 2);
        x.addRule(true, 0, 2, 1);
        x.goOn(60);
        x.dropRule(0);
        Check.same("that it denies", x.decide(0, READ, 0), 2);
        Check.same("that it is deep", x.decide(0, READ, 1), 2);
        Check.same("that the next one is not", x.matches(1, 0, WRITE, 1), true);
        Check.same("that the next one allows", x.decide(0, WRITE, 1), 1);
        x.goOn(60);
        Check.same("its last hour", x.decide(0, READ, 0), 2);
        x.goOn(60);
        Check.same("the hour behind it", x.decide(0, READ, 0), 0);
        x.goOn(22 * 60);
        Check.same("its first hour", x.decide(0, READ, 0), 2);
        x.goOn(23 * 60);
        Check.same("the hour before it", x.decide(0, READ, 0), 0);
        x.dropRule(0);
        x.dropRule(0);
        x.addRule(true, 0, 1, 0);
        Check.same("one that allows", x.decide(0, READ, 0), 1);
        x.dropRule(0);
        x.addRule(false, 0, 1, 0);
        Check.same("then one that denies, by the same number", x.decide(0, READ, 0), 2);
        Check.same("it is not deep", x.decide(0, READ, 1), 0);
    }

    private static void setWeighing() {
        Check.about("Promise 21: the way of weighing from now on, 0 to 3; returns the one before");
        PolicyGate x = new PolicyGate();
        int before = 0;
        for (int weighing : new int[] {3, 0, 2, 1, 1, 3, 3, 0}) {
            Check.same("before", x.setWeighing(weighing), before);
            before = weighing;
        }
    }

    private static void weighingOfEachQuestion() {
        Check.about("Promise 21: from now on, whatever is asked");
        PolicyGate x = Gates.gate(2, 1, 2);
        x.setRole(0, 0, true);
        Gates.deepRule(x, false, ROLE, 17, 0);
        Gates.deepRule(x, true, ROLE, 17, 0);
        x.addRule(true, 0, 17, 1);
        Gates.deepRule(x, false, ROLE, 17, 0);
        x.setRule(3, true, 5);
        x.grant(0, 1, READ, 1, 0, 60);
        byWeighing("why", x, y -> y.why(0, READ, 1), 0, 1, 2, 3);
        byWeighing("decide", x, y -> y.decide(0, READ, 1), 2, 1, 1, 2);
        byWeighing("isGood", x, y -> y.isGood(0) ? 1 : 0, 0, 1, 1, 0);
        byWeighing("who", x, y -> y.who(READ, 1), 0, 3, 3, 0);
        byWeighing("reach", x, y -> y.reach(0, READ), 0, 2, 1, 0);
        byWeighing("rolesNeeded", x, y -> y.rolesNeeded(0, READ, 1), -1, 0, 0, -1);
        byWeighing("isIdle", x, y -> y.isIdle(2) ? 1 : 0, 1, 1, 0, 1);
        byWeighing("wouldDiffer", x, y -> y.wouldDiffer(1), 5, 0, 2, 5);
        byWeighing("wouldGain", x, y -> y.wouldGain(0, 0), 0, 0, 0, 0);
        byWeighing("openness, of 20", x, y -> (int) (y.openness() * 20.0 + 0.5), 0, 5, 3, 0);
        byWeighing("matches", x, y -> y.matches(0, 0, READ, 1) ? 1 : 0, 1, 1, 1, 1);
        byWeighing("contradictions", x, y -> y.contradictions(), 4, 4, 4, 4);
        byWeighing("access", x, y -> y.access(0, READ, 1), 2, 1, 1, 2);
    }

    private interface Question {
        int ask(PolicyGate x);
    }

    private static void byWeighing(String what, PolicyGate x, Question question, int... due) {
        for (int weighing = 0; weighing < 4; weighing++) {
            x.setWeighing(weighing);
            Check.same(what + ", weighing " + weighing, question.ask(x), due[weighing]);
        }
    }

    private static void matchesNow() {
        Check.about("Promise 22: whether it MATCHES these now (neither label, wall nor weighing is asked)");
        PolicyGate x = Gates.gate(1, 0, 2);
        x.addRule(false, 0, 1, 0);
        Gates.deepRule(x, true, 0, ALL, 0);
        x.setWall(0, 0, 0);
        x.setWall(1, 0, 1);
        x.access(0, WRITE, 0);
        x.setLabel(1, 3);
        x.setWeighing(1);
        Check.same("behind a wall", x.matches(1, 0, WRITE, 1), true);
        Check.same("above a label", x.matches(1, 0, READ, 1), true);
        Check.same("outweighed", x.matches(0, 0, READ, 0), true);
        x.setTerms(0, 0, 1, 1);
        Check.same("an hour too early", x.matches(0, 0, READ, 0), false);
        x.goOn(60);
        Check.same("now", x.matches(0, 0, READ, 0), true);
        x.goOn(60);
        Check.same("an hour too late", x.matches(0, 0, READ, 0), false);
    }

    private static void goOn() {
        Check.about("Promises 23 and 24: the CLOCK goes on by 1 to 10000; returns the HOUR then");
        PolicyGate x = new PolicyGate();
        Check.same("the least", x.goOn(1), 0);
        Check.same("the clock", x.clock(), 1);
        Check.same("the most", x.goOn(10000), 22);
        Check.same("the clock", x.clock(), 10001);
        Check.same("10079, the last minute of a week", x.goOn(78), 23);
        Check.same("10080, the first of the next", x.goOn(1), 0);
        Check.same("the clock", x.clock(), 10080);
    }

    private static void grant() {
        Check.about("Promise 25: adds a GRANT, GOOD or not; it ends in 1 to 10000 minutes; returns its number");
        PolicyGate x = Gates.gate(2, 0, 24);
        Check.same("not good", x.grant(0, 1, SHARE, 23, 3, 10000), 0);
        Check.same("not good", x.isGood(0), false);
        x.addRule(true, 0, ALL, 23);
        Check.same("good", x.grant(0, 1, READ, 23, 0, 1), 1);
        Check.same("good", x.isGood(1), true);
        Check.same("good later on", x.isGood(0), true);
        x.goOn(1);
        Check.same("in one minute", x.isGood(1), false);
        x.goOn(9998);
        Check.same("not in 9999", x.isGood(0), true);
        x.goOn(1);
        Check.same("in 10000", x.isGood(0), false);
        Check.same("the clock counts", x.grant(0, 1, READ, 23, 0, 1), 2);
        Check.same("from now", x.isGood(2), true);
        Check.same("the same once more", x.grant(0, 1, READ, 23, 0, 1), 3);
    }

    private static void revoke() {
        Check.about("Promise 26: ends a GRANT now; it keeps its number; returns whether it was there still");
        PolicyGate x = Gates.gate(2, 0, 1);
        x.addRule(true, 0, 17, 0);
        for (int k = 0; k < 4; k++) {
            x.grant(0, 1, READ, 0, 0, 10);
        }
        Check.same("at once", x.revoke(0), true);
        Check.same("a second time", x.revoke(0), false);
        Check.same("it is not good", x.isGood(0), false);
        x.goOn(9);
        Check.same("one minute before its end", x.revoke(3), true);
        Check.same("a second time", x.revoke(3), false);
        Check.same("those between keep their numbers", x.why(1, READ, 0), 1);
        Check.same("there are as many", x.grants(), 4);
        x.goOn(1);
        Check.same("at its end", x.revoke(1), false);
        x.goOn(1);
        Check.same("behind its end", x.revoke(2), false);
        x.grant(1, 0, READ, 0, 0, 10);
        Check.same("one that was never good", x.revoke(4), true);
        Check.same("a new one has a new number", x.grant(0, 1, READ, 0, 0, 10), 5);
    }

    private static void grantsEndedOrNot() {
        Check.about("Promise 27: how many GRANTS there are, ended or not");
        PolicyGate x = Gates.gate(2, 0, 1);
        for (int k = 0; k < 30; k++) {
            x.grant(0, 1, READ, 0, 0, 1 + k % 2);
            x.revoke(k / 2);
        }
        x.goOn(2);
        Check.same("all have ended", x.grants(), 30);
        Check.refused("no room comes of it", () -> x.grant(0, 1, READ, 0, 0, 1));
    }

    private static void isGood() {
        Check.about("Promise 28: whether it is GOOD");
        PolicyGate x = Gates.gate(3, 1, 1);
        x.addRule(true, ROLE, 17, 0);
        for (int k = 0; k < 30; k++) {
            x.grant(k % 2, 1 + k % 2, READ, 0, 3 - k % 2, 60);
        }
        Check.same("the first", x.isGood(0), false);
        Check.same("the last", x.isGood(29), false);
        x.setRole(0, 0, true);
        for (int k = 0; k < 30; k++) {
            Check.same("by the role, or passed on: " + k, x.isGood(k), true);
        }
        x.setRole(0, 0, false);
        Check.same("the first", x.isGood(0), false);
        Check.same("the last", x.isGood(29), false);
    }

    private static void decide() {
        Check.about("Promise 29: what is DECIDED now, 0 to 5");
        PolicyGate x = Gates.gate(12, 0, 24);
        Check.same("0", x.decide(11, SHARE, 23), 0);
        x.addRule(true, 0, ALL, 23);
        x.grant(0, 11, SHARE, 23, 0, 1);
        Check.same("3", x.decide(11, SHARE, 23), 3);
        x.addRule(true, 11, 16, 23);
        Check.same("1", x.decide(11, SHARE, 23), 1);
        x.addRule(false, 11, 16, 23);
        Check.same("2", x.decide(11, SHARE, 23), 2);
        x.setLabel(23, 3);
        Check.same("4", x.decide(11, READ, 23), 4);
        x.setWall(22, 3, 3);
        x.setWall(23, 3, 2);
        x.addRule(true, 11, 16, 22);
        x.access(11, SHARE, 22);
        Check.same("5", x.decide(11, SHARE, 23), 5);
    }

    private static void whyRule() {
        Check.about("Promise 30: with 1 and 2 the RULE");
        PolicyGate x = Gates.gate(2, 0, 1);
        x.addRule(true, 0, 1, 0);
        Check.same("1, the first", x.why(0, READ, 0), 0);
        for (int k = 1; k < 29; k++) {
            x.addRule(true, 0, 1, 0);
        }
        x.addRule(false, 0, 1, 0);
        Check.same("2, the last", x.why(0, READ, 0), 29);
        x.setWeighing(1);
        Check.same("1, the first", x.why(0, READ, 0), 0);
        x.grant(0, 1, READ, 0, 0, 60);
        Check.same("not of another user", x.why(1, READ, 0), -1);
    }

    private static void whyGrant() {
        Check.about("Promise 30: with 3 the GOOD GRANT with the smallest number");
        PolicyGate x = Gates.gate(3, 0, 2);
        Gates.deepRule(x, true, 0, 17, 0);
        x.grant(2, 1, READ, 0, 0, 60);
        x.grant(0, 1, READ, 0, 0, 1);
        x.grant(0, 1, READ, 1, 0, 60);
        x.grant(0, 1, READ, 0, 0, 60);
        Check.same("the first is not good", x.why(1, READ, 1), 1);
        x.goOn(1);
        Check.same("the second has ended", x.why(1, READ, 1), 2);
        Check.same("the third is beneath", x.why(1, READ, 0), 3);
        for (int k = 4; k < 30; k++) {
            x.grant(0, 2, k == 29 ? SHARE : WRITE, 0, 0, 60);
        }
        Check.same("the last", x.why(2, SHARE, 1), 29);
    }

    private static void whyNothing() {
        Check.about("Promise 30: -1 otherwise");
        PolicyGate x = Gates.gate(2, 0, 3);
        Gates.deepRule(x, true, 0, ALL, 0);
        Check.same("0", x.why(1, READ, 0), -1);
        x.setLabel(0, 1);
        Check.same("4, though a rule matches", x.why(0, READ, 0), -1);
        x.setWall(1, 0, 0);
        x.setWall(2, 0, 1);
        x.access(0, READ, 1);
        Check.same("5, though a rule matches", x.why(0, READ, 2), -1);
        x.grant(0, 1, READ, 1, 0, 60);
        Check.same("3", x.why(1, READ, 1), 0);
        x.setLabel(1, 3);
        Check.same("4, though a grant stood", x.why(1, READ, 1), -1);
    }

    private static void whyNothingThoughGranted() {
        Check.about("Promise 30: -1 with 4 and 5, whatever GOOD GRANT there is");
        PolicyGate x = new PolicyGate();
        x.addUser(1, 0);
        x.addUser(0, 0);
        x.addResource(0);
        x.addResource(0);
        Gates.deepRule(x, true, 0, ALL, 0);
        x.grant(0, 1, READ, 1, 0, 60);
        x.grant(0, 1, SHARE, 0, 0, 60);
        x.setLabel(1, 1);
        Check.same("it is good", x.isGood(0), true);
        Check.same("4", x.decide(1, READ, 1), 4);
        Check.same("why 4", x.why(1, READ, 1), -1);
        x.setWall(1, 1, 1);
        x.setWall(2, 1, 2);
        x.access(1, SHARE, 1);
        Check.same("it is good", x.isGood(1), true);
        Check.same("5", x.decide(1, SHARE, 2), 5);
        Check.same("why 5", x.why(1, SHARE, 2), -1);
        Check.same("why 3", x.why(1, SHARE, 1), 1);
    }

    private static void whyOfEach() {
        Check.about("Promise 30: of this user, this action and this resource");
        PolicyGate x = Gates.gate(2, 2, 2);
        x.setWeighing(2);
        x.setHolds(0, 1, true);
        x.setRole(0, 0, true);
        x.setRole(0, 1, true);
        x.setRole(1, 0, true);
        x.addRule(false, ROLE + 1, 1, 0);
        x.addRule(true, ROLE, 1, 0);
        x.addRule(true, ROLE, 2, 1);
        Check.same("user 0 has both near by 1", x.why(0, READ, 0), 0);
        Check.same("user 1 has the one near by 2", x.why(1, READ, 0), 1);
        Check.same("READ on 1", x.why(1, READ, 1), -1);
        Check.same("WRITE on 1", x.why(1, WRITE, 1), 2);
        x.setLabel(1, 1);
        Check.same("READ on 1 is kept off", x.decide(1, READ, 1), 4);
        Check.same("WRITE on 1 is not", x.why(1, WRITE, 1), 2);
    }

    private static void access() {
        Check.about("Promise 31: decides; if it is ALLOWED, the user has done it; and it is counted; what was DECIDED");
        PolicyGate x = Gates.gate(12, 0, 24);
        x.addRule(true, 11, 16, 23);
        x.setWall(23, 3, 3);
        x.setWall(22, 3, 2);
        Check.same("before it", x.done(11, 23), 0);
        Check.same("decided before it is done", x.access(11, SHARE, 23), 1);
        Check.same("done", x.done(11, 23), 16);
        Check.same("once more", x.access(11, SHARE, 23), 1);
        Check.same("done", x.done(11, 23), 16);
        Check.same("counted each time", x.counted(1), 2);
        Check.same("5 then", x.access(11, SHARE, 22), 5);
        Check.same("not done", x.done(11, 22), 0);
        Check.same("counted", x.counted(5), 1);
        Check.same("nothing else was done", x.done(11, 0) + x.done(10, 23) + x.done(0, 0), 0);
    }

    private static void counted() {
        Check.about("Promise 32: how often access() told that");
        PolicyGate x = Gates.gate(1, 0, 1);
        for (int k = 0; k < 500; k++) {
            x.access(0, k % 5, 0);
        }
        Check.same("0", x.counted(0), 500);
        Check.same("1", x.counted(1), 0);
        Check.same("5", x.counted(5), 0);
    }

    private static void done() {
        Check.about("Promise 33: the set of actions that the user has done on it");
        PolicyGate x = Gates.gate(12, 0, 24);
        Gates.deepRule(x, true, 11, ALL, 0);
        Check.same("none", x.done(11, 23), 0);
        for (int action = 0; action < 5; action++) {
            x.access(11, action, 23);
            Check.same("up to " + action, x.done(11, 23), (2 << action) - 1);
        }
        Check.same("not on another", x.done(11, 22), 0);
        Check.same("not by another", x.done(10, 23), 0);
        x.dropRule(0);
        x.setLabel(23, 3);
        x.access(11, READ, 23);
        Check.same("it stays done", x.done(11, 23), ALL);
    }
}
