import java.math.BigInteger;
import java.util.ArrayList;
import java.util.List;

/**
 * The sentences of promises 1 to 42 that name a boundary, one by one, but for what a call throws: that is told in
 * RefusalTest. The answers are worked out by hand.
 */
public final class PromiseEdgeTest {
    private static final int READ = 0;
    private static final int WRITE = 1;
    private static final int MAKE = 2;
    private static final int DROP = 3;
    private static final int SHARE = 4;
    private static final int ALL = 31;
    private static final int ROLE = 12;
    private static final int BIG = Integer.MAX_VALUE;
    private static final int SMALL = Integer.MIN_VALUE;

    private PromiseEdgeTest() {
    }

    public static void main(String[] args) {
        newGate();
        addUser();
        addRole();
        addResource();
        setRole();
        setHolds();
        setApart();
        setUser();
        setLabel();
        setWall();
        howMany();
        near();
        far();
        addRule();
        setRule();
        setTerms();
        dropRule();
        dropRuleFromFull();
        setWeighing();
        matchesNow();
        goOn();
        grant();
        revoke();
        grantsEndedOrNot();
        isGood();
        decide();
        whyRule();
        whyGrant();
        whyNothing();
        access();
        counted();
        done();
        who();
        reach();
        rolesNeededNone();
        rolesNeededByNone();
        rolesNeededTwo();
        rolesNeededApart();
        rolesNeededTwelve();
        contradictions();
        contradictionsNow();
        isIdleWithoutUsers();
        isIdleSame();
        isIdleByGrants();
        wouldDiffer();
        wouldDifferByGrants();
        wouldGain();
        wouldGainAll();
        wouldGainByGrants();
        openness();
        digestOfNew();
        digestWraps();
        Check.end("PromiseEdgeTest");
    }

    /** A gate with users of clearance 0, roles, and a chain of resources 0, 1, 2, .. */
    private static PolicyGate gate(int users, int roles, int resources) {
        PolicyGate x = new PolicyGate();
        for (int k = 0; k < users; k++) {
            x.addUser(0, 0);
        }
        for (int k = 0; k < roles; k++) {
            x.addRole();
        }
        for (int k = 1; k < resources; k++) {
            x.addResource(k - 1);
        }
        return x;
    }

    private static int deepRule(PolicyGate x, boolean allows, int who, int actions, int resource) {
        int rule = x.addRule(allows, who, actions, resource);
        x.setRule(rule, true, 0);
        return rule;
    }

    private static void newGate() {
        Check.about("Promise 1: a gate with the root alone, without RULES, weighing by DENY");
        PolicyGate x = new PolicyGate();
        Check.same("users", x.users(), 0);
        Check.same("roles", x.roles(), 0);
        Check.same("resources", x.resources(), 1);
        Check.same("rules", x.rules(), 0);
        Check.same("grants", x.grants(), 0);
        Check.same("the clock", x.clock(), 0);
        Check.same("weighing", x.setWeighing(0), 0);
        Check.same("who, without users", x.who(SHARE, 0), 0);
        Check.same("contradictions, without rules", x.contradictions(), 0);
        Check.same("openness, without users", x.openness(), 0.0);
        for (int decision = 0; decision < 6; decision++) {
            Check.same("counted " + decision, x.counted(decision), 0);
        }
        x.addRole();
        x.addRole();
        Check.same("no roles are apart", x.setApart(0, 1), 1);
    }

    private static void addUser() {
        Check.about("Promise 2: adds a user without roles; returns its number");
        PolicyGate x = gate(0, 12, 1);
        for (int user = 0; user < 12; user++) {
            Check.same("the number", x.addUser(3, 255), user);
            for (int role = 0; role < 12; role++) {
                Check.same("role " + role, x.near(user, role), -1);
            }
        }
    }

    private static void addRole() {
        Check.about("Promise 3: adds a role that holds none; returns its number");
        PolicyGate x = new PolicyGate();
        for (int role = 0; role < 12; role++) {
            Check.same("the number", x.addRole(), role);
        }
        Check.same("the last holds none", x.setHolds(11, 0, true), false);
        Check.same("the first holds none", x.setHolds(0, 1, true), false);
    }

    private static void addResource() {
        Check.about("Promise 4: adds a resource; returns its number");
        PolicyGate x = new PolicyGate();
        for (int resource = 1; resource < 24; resource++) {
            Check.same("the number", x.addResource(resource - 1), resource);
            Check.same("its parent", x.far(resource, resource - 1), 1);
        }
    }

    private static void setRole() {
        Check.about("Promise 5: returns whether it was in its set");
        PolicyGate x = gate(12, 12, 1);
        x.setHolds(10, 11, true);
        Check.same("not yet", x.setRole(11, 10, true), false);
        Check.same("had along another is not in the set", x.setRole(11, 11, true), false);
        Check.same("it was", x.setRole(11, 11, true), true);
        Check.same("it was, and is no more", x.setRole(11, 11, false), true);
        Check.same("had along another still", x.near(11, 11), 2);
        Check.same("it was not", x.setRole(11, 11, false), false);
        Check.same("the user before it", x.setRole(10, 11, false), false);
    }

    private static void setHolds() {
        Check.about("Promise 6: returns whether it did hold it");
        PolicyGate x = gate(1, 12, 1);
        Check.same("not yet", x.setHolds(11, 10, true), false);
        Check.same("it did", x.setHolds(11, 10, true), true);
        Check.same("not the other way round", x.setHolds(10, 11, false), false);
        Check.same("nor did that change it", x.setHolds(11, 10, false), true);
        Check.same("not any more", x.setHolds(11, 10, false), false);
        x.setHolds(0, 1, true);
        x.setHolds(1, 2, true);
        Check.same("along another is not to hold it itself", x.setHolds(0, 2, false), false);
    }

    private static void setApart() {
        Check.about("Promise 7: returns how many pairs are APART then");
        PolicyGate x = gate(0, 12, 1);
        int pairs = 0;
        for (int role = 11; pairs < 10; role--) {
            pairs++;
            Check.same("pairs", x.setApart(11, role - 1), pairs);
        }
    }

    private static void setUser() {
        Check.about("Promise 8: returns its TRAITS before");
        PolicyGate x = new PolicyGate();
        x.addUser(0, 255);
        x.addUser(0, 1);
        Check.same("all", x.setUser(0, 0, 0), 255);
        Check.same("none", x.setUser(0, 0, 128), 0);
        Check.same("the eighth", x.setUser(0, 0, 128), 128);
        Check.same("another user's", x.setUser(1, 0, 1), 1);
    }

    private static void setLabel() {
        Check.about("Promise 9: returns the one before");
        PolicyGate x = gate(0, 0, 24);
        Check.same("0 at first", x.setLabel(23, 3), 0);
        Check.same("the greatest", x.setLabel(23, 0), 3);
        Check.same("the smallest", x.setLabel(23, 1), 0);
        Check.same("beside it", x.setLabel(22, 0), 0);
    }

    private static void setWall() {
        Check.about("Promise 10: -1 for none, its house is not looked at; returns whether it had a WALL");
        PolicyGate x = gate(1, 0, 24);
        Check.same("none at first", x.setWall(23, -1, 4), false);
        Check.same("still none", x.setWall(23, 0, 0), false);
        Check.same("class 0, house 0 is one", x.setWall(23, 3, 3), true);
        Check.same("class 3, house 3 is one", x.setWall(23, -1, BIG), true);
        Check.same("none", x.setWall(23, -1, SMALL), false);
        deepRule(x, true, 0, ALL, 0);
        x.setWall(1, 2, 0);
        x.access(0, READ, 1);
        x.setWall(2, 2, 1);
        Check.same("a wall keeps off", x.decide(0, READ, 2), 5);
        x.setWall(2, -1, 1);
        Check.same("none keeps not off", x.decide(0, READ, 2), 1);
    }

    private static void howMany() {
        Check.about("Promises 11, 12, 13, 20 and 27: how many there are, none and full");
        PolicyGate x = new PolicyGate();
        Check.same("no users", x.users(), 0);
        Check.same("no roles", x.roles(), 0);
        Check.same("the root", x.resources(), 1);
        Check.same("no rules", x.rules(), 0);
        Check.same("no grants", x.grants(), 0);
        for (int k = 0; k < 30; k++) {
            if (k < 12) {
                x.addUser(0, 0);
                x.addRole();
            }
            if (k < 23) {
                x.addResource(0);
            }
        }
        for (int k = 0; k < 30; k++) {
            x.addRule(true, 0, 1, 0);
            x.grant(0, 1, 0, 0, 0, 1);
        }
        Check.same("all users", x.users(), 12);
        Check.same("all roles", x.roles(), 12);
        Check.same("all resources", x.resources(), 24);
        Check.same("all rules", x.rules(), 30);
        Check.same("all grants", x.grants(), 30);
    }

    private static void near() {
        Check.about("Promise 14: by how much the user has it near; -1 if it does not HAVE it");
        PolicyGate x = gate(12, 12, 1);
        for (int k = 11; k > 0; k--) {
            x.setHolds(k, k - 1, true);
        }
        x.setRole(11, 11, true);
        Check.same("the least", x.near(11, 11), 1);
        Check.same("the greatest", x.near(11, 0), 12);
        Check.same("another user", x.near(10, 0), -1);
        x.setRole(10, 0, true);
        Check.same("not those that hold it", x.near(10, 1), -1);
    }

    private static void far() {
        Check.about("Promise 15: by how much the one is FAR beneath the other; -1 if it is not beneath it");
        PolicyGate x = gate(0, 0, 23);
        x.addResource(0);
        Check.same("itself", x.far(0, 0), 0);
        Check.same("the farthest", x.far(22, 0), 22);
        Check.same("above", x.far(0, 22), -1);
        Check.same("beside", x.far(23, 22), -1);
        Check.same("beside", x.far(22, 23), -1);
        Check.same("beside, of the same parent", x.far(23, 1), -1);
    }

    private static void addRule() {
        Check.about("Promise 16: not DEEP, with the RANK 0, without TRAITS, for all hours; returns its number");
        PolicyGate x = gate(1, 0, 2);
        for (int k = 0; k < 29; k++) {
            x.addRule(false, 0, 2, 0);
        }
        Check.same("the number of the last", x.addRule(true, 0, 1, 0), 29);
        x.setRule(29, true, 9);
        x.setTerms(29, 255, 5, 4);
        x.dropRule(29);
        Check.same("its number again", x.addRule(true, 0, 1, 0), 29);
        Check.same("not deep", x.matches(29, 0, READ, 1), false);
        for (int hour = 0; hour < 24; hour++) {
            Check.same("without traits, at " + hour, x.matches(29, 0, READ, 0), true);
            x.goOn(60);
        }
        Check.same("rank", x.setRule(29, false, 0), 0);
        Check.same("traits", x.setTerms(29, 0, 0, 0), 0);
    }

    private static void setRule() {
        Check.about("Promise 17: returns its RANK before");
        PolicyGate x = gate(1, 0, 1);
        for (int k = 0; k < 30; k++) {
            x.addRule(true, 0, 1, 0);
        }
        Check.same("0 at first", x.setRule(29, true, 9), 0);
        Check.same("the greatest", x.setRule(29, true, 0), 9);
        Check.same("the smallest", x.setRule(29, true, 1), 0);
        Check.same("another", x.setRule(28, true, 1), 0);
        Check.same("the first", x.setRule(0, true, 1), 0);
    }

    private static void setTerms() {
        Check.about("Promise 18: returns the TRAITS that one needed before");
        PolicyGate x = gate(1, 0, 1);
        for (int k = 0; k < 30; k++) {
            x.addRule(true, 0, 1, 0);
        }
        Check.same("none at first", x.setTerms(29, 255, 0, 23), 0);
        Check.same("all", x.setTerms(29, 0, 23, 0), 255);
        Check.same("none", x.setTerms(29, 1, 0, 0), 0);
        Check.same("another", x.setTerms(28, 1, 0, 0), 0);
    }

    private static void dropRule() {
        Check.about("Promise 19: drops a RULE; those with greater numbers have one less; returns how many there are then");
        PolicyGate x = gate(5, 0, 1);
        for (int k = 0; k < 5; k++) {
            x.addRule(true, k, 1, 0);
            x.setRule(k, false, k + 1);
        }
        Check.same("one in between", x.dropRule(2), 4);
        Check.same("the one before it", x.why(1, READ, 0), 1);
        Check.same("it is gone", x.decide(2, READ, 0), 0);
        Check.same("the one behind it", x.why(3, READ, 0), 2);
        Check.same("the last", x.why(4, READ, 0), 3);
        Check.same("the first", x.dropRule(0), 3);
        Check.same("the one behind it", x.why(1, READ, 0), 0);
        Check.same("the last", x.why(4, READ, 0), 2);
        Check.same("the last goes", x.dropRule(2), 2);
        Check.same("it is gone", x.decide(4, READ, 0), 0);
        Check.same("those before it stay", x.why(3, READ, 0), 1);
        Check.same("their ranks with them", x.setRule(1, false, 0), 4);
        Check.same("their ranks with them", x.setRule(0, false, 0), 2);
        x.dropRule(1);
        Check.same("the only one", x.dropRule(0), 0);
        Check.same("nothing is left", x.decide(1, READ, 0), 0);
        Check.same("the numbers begin anew", x.addRule(true, 0, 1, 0), 0);
    }

    private static void dropRuleFromFull() {
        Check.about("Promise 19: of 30, each with all that is told of it");
        PolicyGate x = gate(12, 0, 24);
        for (int k = 0; k < 30; k++) {
            x.addRule(k % 2 == 0, k % 12, 1 + k, k % 24);
            x.setRule(k, k % 3 == 0, k % 10);
            x.setTerms(k, k, k % 24, k % 24);
        }
        Check.same("then", x.dropRule(0), 29);
        Check.refused("not thirty-one", () -> {
            x.addRule(true, 0, 1, 0);
            x.addRule(true, 0, 1, 0);
        });
        for (int k = 1; k < 30; k++) {
            Check.same("rank of " + k, x.setRule(k - 1, k % 3 == 0, 0), k % 10);
            Check.same("traits of " + k, x.setTerms(k - 1, 0, 0, 23), k);
            Check.same("its user and action " + k, x.matches(k - 1, k % 12, Integer.numberOfTrailingZeros(1 + k), k % 24),
                    true);
            Check.same("another user " + k, x.matches(k - 1, (k + 1) % 12, READ, k % 24), false);
        }
    }

    private static void setWeighing() {
        Check.about("Promise 21: the way of weighing from now on, 0 to 3; returns the one before");
        PolicyGate x = new PolicyGate();
        int before = 0;
        for (int weighing : new int[] {3, 0, 2, 1, 1, 3, 3, 0}) {
            Check.same("before", x.setWeighing(weighing), before);
            before = weighing;
        }
    }

    private static void matchesNow() {
        Check.about("Promise 22: whether it MATCHES these now (neither label, wall nor weighing is asked)");
        PolicyGate x = gate(1, 0, 2);
        x.addRule(false, 0, 1, 0);
        deepRule(x, true, 0, ALL, 0);
        x.setWall(0, 0, 0);
        x.setWall(1, 0, 1);
        x.access(0, WRITE, 0);
        x.setLabel(1, 3);
        x.setWeighing(1);
        Check.same("behind a wall", x.matches(1, 0, WRITE, 1), true);
        Check.same("above a label", x.matches(1, 0, READ, 1), true);
        Check.same("outweighed", x.matches(0, 0, READ, 0), true);
        x.setTerms(0, 0, 1, 1);
        Check.same("an hour too early", x.matches(0, 0, READ, 0), false);
        x.goOn(60);
        Check.same("now", x.matches(0, 0, READ, 0), true);
        x.goOn(60);
        Check.same("an hour too late", x.matches(0, 0, READ, 0), false);
    }

    private static void goOn() {
        Check.about("Promises 23 and 24: the CLOCK goes on by 1 to 10000; returns the HOUR then");
        PolicyGate x = new PolicyGate();
        Check.same("the least", x.goOn(1), 0);
        Check.same("the clock", x.clock(), 1);
        Check.same("the most", x.goOn(10000), 22);
        Check.same("the clock", x.clock(), 10001);
        Check.same("10079, the last minute of a week", x.goOn(78), 23);
        Check.same("10080, the first of the next", x.goOn(1), 0);
        Check.same("the clock", x.clock(), 10080);
    }

    private static void grant() {
        Check.about("Promise 25: adds a GRANT, GOOD or not; it ends in 1 to 10000 minutes; returns its number");
        PolicyGate x = gate(2, 0, 24);
        Check.same("not good", x.grant(0, 1, SHARE, 23, 3, 10000), 0);
        Check.same("not good", x.isGood(0), false);
        x.addRule(true, 0, ALL, 23);
        Check.same("good", x.grant(0, 1, READ, 23, 0, 1), 1);
        Check.same("good", x.isGood(1), true);
        Check.same("good later on", x.isGood(0), true);
        x.goOn(1);
        Check.same("in one minute", x.isGood(1), false);
        x.goOn(9998);
        Check.same("not in 9999", x.isGood(0), true);
        x.goOn(1);
        Check.same("in 10000", x.isGood(0), false);
        Check.same("the clock counts", x.grant(0, 1, READ, 23, 0, 1), 2);
        Check.same("from now", x.isGood(2), true);
        Check.same("the same once more", x.grant(0, 1, READ, 23, 0, 1), 3);
    }

    private static void revoke() {
        Check.about("Promise 26: ends a GRANT now; it keeps its number; returns whether it was there still");
        PolicyGate x = gate(2, 0, 1);
        x.addRule(true, 0, 17, 0);
        for (int k = 0; k < 4; k++) {
            x.grant(0, 1, READ, 0, 0, 10);
        }
        Check.same("at once", x.revoke(0), true);
        Check.same("a second time", x.revoke(0), false);
        Check.same("it is not good", x.isGood(0), false);
        x.goOn(9);
        Check.same("one minute before its end", x.revoke(3), true);
        Check.same("a second time", x.revoke(3), false);
        Check.same("those between keep their numbers", x.why(1, READ, 0), 1);
        Check.same("there are as many", x.grants(), 4);
        x.goOn(1);
        Check.same("at its end", x.revoke(1), false);
        x.goOn(1);
        Check.same("behind its end", x.revoke(2), false);
        x.grant(1, 0, READ, 0, 0, 10);
        Check.same("one that was never good", x.revoke(4), true);
        Check.same("a new one has a new number", x.grant(0, 1, READ, 0, 0, 10), 5);
    }

    private static void grantsEndedOrNot() {
        Check.about("Promise 27: how many GRANTS there are, ended or not");
        PolicyGate x = gate(2, 0, 1);
        for (int k = 0; k < 30; k++) {
            x.grant(0, 1, READ, 0, 0, 1 + k % 2);
            x.revoke(k / 2);
        }
        x.goOn(2);
        Check.same("all have ended", x.grants(), 30);
        Check.refused("no room comes of it", () -> x.grant(0, 1, READ, 0, 0, 1));
    }

    private static void isGood() {
        Check.about("Promise 28: whether it is GOOD");
        PolicyGate x = gate(3, 1, 1);
        x.addRule(true, ROLE, 17, 0);
        for (int k = 0; k < 30; k++) {
            x.grant(k % 2, 1 + k % 2, READ, 0, 3 - k % 2, 60);
        }
        Check.same("the first", x.isGood(0), false);
        Check.same("the last", x.isGood(29), false);
        x.setRole(0, 0, true);
        for (int k = 0; k < 30; k++) {
            Check.same("by the role, or passed on: " + k, x.isGood(k), true);
        }
        x.setRole(0, 0, false);
        Check.same("the first", x.isGood(0), false);
        Check.same("the last", x.isGood(29), false);
    }

    private static void decide() {
        Check.about("Promise 29: what is DECIDED now, 0 to 5");
        PolicyGate x = gate(12, 0, 24);
        Check.same("0", x.decide(11, SHARE, 23), 0);
        x.addRule(true, 0, ALL, 23);
        x.grant(0, 11, SHARE, 23, 0, 1);
        Check.same("3", x.decide(11, SHARE, 23), 3);
        x.addRule(true, 11, 16, 23);
        Check.same("1", x.decide(11, SHARE, 23), 1);
        x.addRule(false, 11, 16, 23);
        Check.same("2", x.decide(11, SHARE, 23), 2);
        x.setLabel(23, 3);
        Check.same("4", x.decide(11, READ, 23), 4);
        x.setWall(22, 3, 3);
        x.setWall(23, 3, 2);
        x.addRule(true, 11, 16, 22);
        x.access(11, SHARE, 22);
        Check.same("5", x.decide(11, SHARE, 23), 5);
    }

    private static void whyRule() {
        Check.about("Promise 30: with 1 and 2 the RULE");
        PolicyGate x = gate(2, 0, 1);
        x.addRule(true, 0, 1, 0);
        Check.same("1, the first", x.why(0, READ, 0), 0);
        for (int k = 1; k < 29; k++) {
            x.addRule(true, 0, 1, 0);
        }
        x.addRule(false, 0, 1, 0);
        Check.same("2, the last", x.why(0, READ, 0), 29);
        x.setWeighing(1);
        Check.same("1, the first", x.why(0, READ, 0), 0);
        x.grant(0, 1, READ, 0, 0, 60);
        Check.same("not of another user", x.why(1, READ, 0), -1);
    }

    private static void whyGrant() {
        Check.about("Promise 30: with 3 the GOOD GRANT with the smallest number");
        PolicyGate x = gate(3, 0, 2);
        deepRule(x, true, 0, 17, 0);
        x.grant(2, 1, READ, 0, 0, 60);
        x.grant(0, 1, READ, 0, 0, 1);
        x.grant(0, 1, READ, 1, 0, 60);
        x.grant(0, 1, READ, 0, 0, 60);
        Check.same("the first is not good", x.why(1, READ, 1), 1);
        x.goOn(1);
        Check.same("the second has ended", x.why(1, READ, 1), 2);
        Check.same("the third is beneath", x.why(1, READ, 0), 3);
        for (int k = 4; k < 30; k++) {
            x.grant(0, 2, k == 29 ? SHARE : WRITE, 0, 0, 60);
        }
        Check.same("the last", x.why(2, SHARE, 1), 29);
    }

    private static void whyNothing() {
        Check.about("Promise 30: -1 otherwise");
        PolicyGate x = gate(2, 0, 3);
        deepRule(x, true, 0, ALL, 0);
        Check.same("0", x.why(1, READ, 0), -1);
        x.setLabel(0, 1);
        Check.same("4, though a rule matches", x.why(0, READ, 0), -1);
        x.setWall(1, 0, 0);
        x.setWall(2, 0, 1);
        x.access(0, READ, 1);
        Check.same("5, though a rule matches", x.why(0, READ, 2), -1);
        x.grant(0, 1, READ, 1, 0, 60);
        Check.same("3", x.why(1, READ, 1), 0);
        x.setLabel(1, 3);
        Check.same("4, though a grant stands", x.why(1, READ, 1), -1);
    }

    private static void access() {
        Check.about("Promise 31: decides; if it is ALLOWED, the user has done it; and it is counted; what was DECIDED");
        PolicyGate x = gate(12, 0, 24);
        x.addRule(true, 11, 16, 23);
        x.setWall(23, 3, 3);
        x.setWall(22, 3, 2);
        Check.same("before it", x.done(11, 23), 0);
        Check.same("decided before it is done", x.access(11, SHARE, 23), 1);
        Check.same("done", x.done(11, 23), 16);
        Check.same("once more", x.access(11, SHARE, 23), 1);
        Check.same("done", x.done(11, 23), 16);
        Check.same("counted each time", x.counted(1), 2);
        Check.same("5 then", x.access(11, SHARE, 22), 5);
        Check.same("not done", x.done(11, 22), 0);
        Check.same("counted", x.counted(5), 1);
        Check.same("nothing else was done", x.done(11, 0) + x.done(10, 23) + x.done(0, 0), 0);
    }

    private static void counted() {
        Check.about("Promise 32: how often access() told that");
        PolicyGate x = gate(1, 0, 1);
        for (int k = 0; k < 500; k++) {
            x.access(0, k % 5, 0);
        }
        Check.same("0", x.counted(0), 500);
        Check.same("1", x.counted(1), 0);
        Check.same("5", x.counted(5), 0);
    }

    private static void done() {
        Check.about("Promise 33: the set of actions that the user has done on it");
        PolicyGate x = gate(12, 0, 24);
        deepRule(x, true, 11, ALL, 0);
        Check.same("none", x.done(11, 23), 0);
        for (int action = 0; action < 5; action++) {
            x.access(11, action, 23);
            Check.same("up to " + action, x.done(11, 23), (2 << action) - 1);
        }
        Check.same("not on another", x.done(11, 22), 0);
        Check.same("not by another", x.done(10, 23), 0);
        x.dropRule(0);
        x.setLabel(23, 3);
        x.access(11, READ, 23);
        Check.same("it stays done", x.done(11, 23), ALL);
    }

    private static void who() {
        Check.about("Promise 34: the set of users to whom it is ALLOWED");
        PolicyGate x = gate(12, 1, 24);
        Check.same("none", x.who(SHARE, 23), 0);
        x.addRule(true, ROLE, 16, 23);
        x.setRole(11, 0, true);
        Check.same("the last", x.who(SHARE, 23), 2048);
        x.setRole(0, 0, true);
        Check.same("the first and the last", x.who(SHARE, 23), 2049);
        for (int user = 1; user < 11; user++) {
            x.grant(0, user, SHARE, 23, 0, 60);
        }
        Check.same("all", x.who(SHARE, 23), 4095);
        x.setRole(0, 0, false);
        Check.same("without the first, the grants fall", x.who(SHARE, 23), 2048);
        Check.same("without users", new PolicyGate().who(READ, 0), 0);
    }

    private static void reach() {
        Check.about("Promise 35: on how many resources it is ALLOWED to it");
        PolicyGate x = gate(2, 0, 24);
        Check.same("none", x.reach(1, SHARE), 0);
        x.addRule(true, 1, 16, 23);
        Check.same("the last", x.reach(1, SHARE), 1);
        x.addRule(true, 1, 16, 0);
        Check.same("the first and the last", x.reach(1, SHARE), 2);
        x.setRule(1, true, 0);
        Check.same("all", x.reach(1, SHARE), 24);
        Check.same("another action", x.reach(1, DROP), 0);
        Check.same("another user", x.reach(0, SHARE), 0);
        x.grant(1, 0, SHARE, 1, 0, 60);
        Check.same("by a grant", x.reach(0, SHARE), 23);
    }

    private static void rolesNeededNone() {
        Check.about("Promise 36: 0 if it is ALLOWED now");
        PolicyGate x = gate(2, 1, 1);
        x.addRule(true, 0, 17, 0);
        Check.same("by a rule for itself", x.rolesNeeded(0, READ, 0), 0);
        x.grant(0, 1, READ, 0, 0, 60);
        Check.same("by a grant", x.rolesNeeded(1, READ, 0), 0);
        x.addRule(true, ROLE, 2, 0);
        x.setRole(1, 0, true);
        Check.same("by a role that it has", x.rolesNeeded(1, WRITE, 0), 0);
        Check.same("without roles at all", gateThatAllows().rolesNeeded(0, READ, 0), 0);
    }

    private static PolicyGate gateThatAllows() {
        PolicyGate x = gate(1, 0, 1);
        x.addRule(true, 0, 1, 0);
        return x;
    }

    private static void rolesNeededByNone() {
        Check.about("Promise 36: -1 if it is not by any");
        PolicyGate x = gate(2, 0, 3);
        Check.same("there are no roles", x.rolesNeeded(0, READ, 0), -1);
        x.addRole();
        x.addRole();
        Check.same("there are no rules", x.rolesNeeded(0, READ, 0), -1);
        x.addRule(false, ROLE, 1, 0);
        Check.same("a role that denies", x.rolesNeeded(0, READ, 0), -1);
        x.addRule(true, ROLE + 1, 1, 0);
        Check.same("one that allows", x.rolesNeeded(0, READ, 0), 1);
        x.setLabel(0, 1);
        Check.same("a label", x.rolesNeeded(0, READ, 0), -1);
        x.setUser(0, 1, 0);
        x.setTerms(1, 1, 0, 23);
        Check.same("a trait that it has not", x.rolesNeeded(0, READ, 0), -1);
        x.setTerms(1, 0, 1, 23);
        Check.same("not in this hour", x.rolesNeeded(0, READ, 0), -1);
        x.goOn(60);
        Check.same("in the next one", x.rolesNeeded(0, READ, 0), 1);
        x.setRole(0, 0, true);
        Check.same("the one that denies is in its set", x.rolesNeeded(0, READ, 0), -1);
        x.setWeighing(1);
        Check.same("but does not count", x.rolesNeeded(0, READ, 0), 1);
        x.setWall(0, 0, 0);
        x.setWall(1, 0, 1);
        x.addRule(true, 0, 1, 2);
        x.access(0, READ, 2);
        Check.same("another wall", x.rolesNeeded(0, READ, 0), 1);
        x.setWall(2, 0, 2);
        Check.same("a wall", x.rolesNeeded(0, READ, 0), -1);
    }

    private static void rolesNeededTwo() {
        Check.about("Promise 36: how many roles at least its set would need more");
        PolicyGate x = gate(2, 12, 3);
        x.addRule(true, ROLE + 11, 1, 0);
        x.addRule(true, ROLE + 10, 16, 0);
        x.grant(0, 1, READ, 0, 2, 60);
        x.grant(1, 0, READ, 1, 1, 60);
        Check.same("READ and SHARE for its own grant, which comes back", x.rolesNeeded(0, READ, 2), 2);
        x.addRule(false, ROLE + 9, 1, 2);
        Check.same("a third that denies is not needed", x.rolesNeeded(0, READ, 2), 2);
        x.setHolds(8, 10, true);
        x.setHolds(8, 11, true);
        Check.same("one that holds both", x.rolesNeeded(0, READ, 2), 1);
        x.setHolds(8, 9, true);
        Check.same("it holds the one that denies, too", x.rolesNeeded(0, READ, 2), 2);
        x.setRole(0, 11, true);
        Check.same("it has one of the two", x.rolesNeeded(0, READ, 2), 1);
        x.setRole(0, 10, true);
        Check.same("it has both", x.rolesNeeded(0, READ, 2), 0);
        x.setRole(0, 10, false);
        x.revoke(1);
        Check.same("nothing comes back", x.rolesNeeded(0, READ, 2), -1);
        x.addRule(true, ROLE, 1, 2);
        Check.same("a role on it itself", x.rolesNeeded(0, READ, 2), 1);
    }

    private static void rolesNeededApart() {
        Check.about("Promise 36: and it would not HAVE two that are APART");
        PolicyGate x = gate(2, 5, 2);
        x.addRule(true, ROLE + 1, 1, 0);
        x.addRule(true, ROLE + 2, 16, 0);
        x.grant(0, 1, READ, 0, 1, 60);
        x.grant(1, 0, READ, 0, 0, 60);
        Check.same("two", x.rolesNeeded(0, READ, 1), 2);
        x.setApart(1, 2);
        Check.same("apart from each other", x.rolesNeeded(0, READ, 1), -1);
        x.setHolds(3, 1, true);
        Check.same("along another as well", x.rolesNeeded(0, READ, 1), -1);
        Check.same("one alone", x.rolesNeeded(0, READ, 0), 1);
        x.addRule(true, ROLE + 4, 17, 0);
        Check.same("another gives both", x.rolesNeeded(0, READ, 1), 1);
        x.setRole(0, 0, true);
        x.setApart(0, 4);
        Check.same("it is apart from what it has", x.rolesNeeded(0, READ, 1), -1);
        Check.same("the others are not", x.rolesNeeded(0, READ, 0), 1);
        x.setApart(0, 1);
        Check.same("now they are", x.rolesNeeded(0, READ, 0), -1);
        Check.same("another user has nothing that is apart", x.rolesNeeded(1, READ, 0), 1);
    }

    private static void rolesNeededTwelve() {
        Check.about("Promise 36: of 12 roles in a chain, with ten pairs apart");
        PolicyGate x = gate(12, 12, 24);
        for (int k = 1; k < 12; k++) {
            x.setHolds(k - 1, k, true);
        }
        x.addRule(true, ROLE + 11, 16, 23);
        for (int k = 1; k < 11; k++) {
            x.setApart(0, k);
        }
        Check.same("any but the first", x.rolesNeeded(11, SHARE, 23), 1);
        x.setHolds(10, 11, false);
        Check.same("the last alone", x.rolesNeeded(11, SHARE, 23), 1);
        x.setRole(11, 1, true);
        Check.same("besides another", x.rolesNeeded(11, SHARE, 23), 1);
        x.setHolds(11, 0, true);
        Check.same("it holds one that is apart", x.rolesNeeded(11, SHARE, 23), -1);
        x.setHolds(0, 1, false);
        Check.same("apart from what the user has", x.rolesNeeded(11, SHARE, 23), -1);
        Check.same("but not for another", x.rolesNeeded(0, SHARE, 23), 1);
    }

    private static void contradictions() {
        Check.about("Promise 37: how many pairs of RULES, one that allows and one that denies");
        PolicyGate x = gate(1, 0, 1);
        for (int k = 0; k < 30; k++) {
            x.addRule(k % 2 == 0, 0, ALL, 0);
            Check.same("of " + (k + 1), x.contradictions(), (k / 2 + 1) * ((k + 1) / 2));
        }
        Check.same("without users", withoutUsers().contradictions(), 0);
    }

    /** Rules for roles alone. */
    private static PolicyGate withoutUsers() {
        PolicyGate x = gate(0, 1, 1);
        x.addRule(true, ROLE, ALL, 0);
        x.addRule(false, ROLE, ALL, 0);
        return x;
    }

    private static void contradictionsNow() {
        Check.about("Promise 37: for which both MATCH the same user, action and resource now, for some");
        PolicyGate x = gate(3, 2, 3);
        deepRule(x, true, ROLE, 1 + 2, 1);
        deepRule(x, false, ROLE + 1, 2 + 4, 2);
        Check.same("nobody has a role", x.contradictions(), 0);
        x.setRole(0, 0, true);
        x.setRole(1, 1, true);
        Check.same("nobody has both", x.contradictions(), 0);
        x.setRole(2, 0, true);
        x.setRole(2, 1, true);
        Check.same("one has both", x.contradictions(), 1);
        x.setTerms(0, 0, 0, 0);
        x.setTerms(1, 0, 1, 1);
        Check.same("never in the same hour", x.contradictions(), 0);
        x.setTerms(1, 0, 1, 0);
        Check.same("in this one", x.contradictions(), 1);
        x.goOn(60);
        Check.same("not in the next one", x.contradictions(), 0);
        x.setTerms(0, 1, 0, 23);
        Check.same("a trait that is missing", x.contradictions(), 0);
        x.setUser(2, 0, 1);
        Check.same("a trait that is there", x.contradictions(), 1);
        x.setRule(0, false, 0);
        Check.same("not on the same resource", x.contradictions(), 0);
        x.setRule(0, true, 0);
        x.addRule(false, ROLE + 1, 4 + 8 + 16, 2);
        Check.same("not for the same action", x.contradictions(), 1);
    }

    private static void isIdleWithoutUsers() {
        Check.about("Promise 38: about all users (there are none)");
        Check.same("the first", withoutUsers().isIdle(0), true);
        Check.same("the last", withoutUsers().isIdle(1), true);
    }

    private static void isIdleSame() {
        Check.about("Promise 38: the same; 1 and 3 are not the same, but which RULE or GRANT it is does not count");
        PolicyGate x = gate(12, 0, 24);
        x.addRule(true, 11, 16, 23);
        Check.same("the last user, action and resource", x.isIdle(0), false);
        x.addRule(true, 11, 16, 23);
        Check.same("there is another", x.isIdle(0), true);
        Check.same("there is another", x.isIdle(1), true);
        x.dropRule(1);
        deepRule(x, true, 0, ALL, 0);
        x.grant(0, 11, SHARE, 23, 0, 60);
        Check.same("3 in the place of 1", x.isIdle(0), false);
        x.addRule(false, 1, 1, 0);
        Check.same("2 in the place of 0", x.isIdle(2), false);
        x.setTerms(2, 0, 1, 1);
        Check.same("not now", x.isIdle(2), true);
        x.goOn(59);
        Check.same("not yet", x.isIdle(2), true);
        x.goOn(1);
        Check.same("gone is the grant, now is the hour", x.isIdle(2), false);
    }

    private static void isIdleByGrants() {
        Check.about("Promise 38: what would be is told with all GRANTS GOOD or not as they would be, too");
        PolicyGate x = gate(3, 0, 1);
        x.addRule(true, 0, 17, 0);
        x.addRule(true, 0, 17, 0);
        x.grant(0, 1, READ, 0, 1, 60);
        x.grant(1, 2, READ, 0, 0, 60);
        Check.same("the grants rest on the other", x.isIdle(0), true);
        x.dropRule(1);
        x.setWall(0, 0, 0);
        x.addResource(0);
        x.addRule(true, 0, 16, 1);
        x.access(0, SHARE, 1);
        x.setWall(1, 0, 1);
        Check.same("the wall stands before it, and before the grant", x.isIdle(0), true);
        x.setWall(1, -1, 0);
        Check.same("without the wall", x.isIdle(0), false);
        PolicyGate y = gate(3, 0, 1);
        y.addRule(true, 0, 16, 0);
        y.addRule(true, 0, 1, 0);
        y.grant(0, 1, READ, 0, 1, 60);
        y.addRule(false, 1, 16, 0);
        y.addRule(true, 1, 1, 0);
        y.grant(1, 2, READ, 0, 0, 60);
        Check.same("the grant to another is good by a grant", y.isGood(1), true);
        y.revoke(0);
        Check.same("not any more", y.isGood(1), false);
        y.addRule(false, 2, 1, 0);
        Check.same("without it nothing is granted", y.isIdle(4), false);
    }

    private static void wouldDiffer() {
        Check.about("Promise 39: about how many of all users, actions and resources something else would be DECIDED");
        PolicyGate x = new PolicyGate();
        for (int weighing = 0; weighing < 4; weighing++) {
            Check.same("without users", x.wouldDiffer(weighing), 0);
        }
        PolicyGate y = gate(12, 1, 24);
        deepRule(y, false, ROLE, ALL, 0);
        deepRule(y, true, ROLE, ALL, 0);
        for (int user = 0; user < 12; user++) {
            y.setRole(user, 0, true);
        }
        Check.same("as it is", y.wouldDiffer(0), 0);
        Check.same("all", y.wouldDiffer(1), 1440);
        Check.same("none", y.wouldDiffer(2), 0);
        Check.same("none", y.wouldDiffer(3), 0);
        y.setWeighing(1);
        Check.same("all, the other way round", y.wouldDiffer(0), 1440);
        y.setRule(1, true, 1);
        Check.same("rank allows as well", y.wouldDiffer(3), 0);
        y.setRule(0, false, 0);
        Check.same("nearest: but for the root", y.wouldDiffer(2), 60);
        y.dropRule(0);
        for (int weighing = 0; weighing < 4; weighing++) {
            Check.same("with one rule", y.wouldDiffer(weighing), 0);
        }
    }

    private static void wouldDifferByGrants() {
        Check.about("Promise 39: what would be is told with all GRANTS GOOD or not as they would be, too");
        PolicyGate x = gate(4, 0, 3);
        deepRule(x, true, 0, 17, 0);
        x.grant(0, 1, READ, 1, 1, 60);
        x.grant(1, 2, READ, 2, 0, 60);
        x.addRule(false, 0, 16, 1);
        Check.same("READ on 1 and 2, READ on 2, and SHARE on 1", x.wouldDiffer(1), 4);
        x.addRule(true, 2, 1, 2);
        Check.same("which grant it is does not count, but a rule stands before", x.wouldDiffer(1), 3);
        x.goOn(60);
        Check.same("the grants have ended", x.wouldDiffer(1), 1);
    }

    private static void wouldGain() {
        Check.about("Promise 40: for how many actions and resources; if that was in its set (APART or not)");
        PolicyGate x = gate(2, 3, 2);
        Check.same("without rules", x.wouldGain(0, 0), 0);
        deepRule(x, true, ROLE, 3, 0);
        Check.same("two on two", x.wouldGain(0, 0), 4);
        x.setApart(0, 1);
        x.setRole(0, 1, true);
        Check.same("apart", x.wouldGain(0, 0), 4);
        x.setHolds(2, 0, true);
        Check.same("apart along another", x.wouldGain(0, 2), 4);
        x.setRole(1, 0, true);
        Check.same("it has it", x.wouldGain(1, 0), 0);
        x.addRule(true, 0, 1, 0);
        Check.same("what is allowed is no gain", x.wouldGain(0, 0), 3);
        x.addRule(false, ROLE, 1, 0);
        Check.same("what would be lost is not taken off", x.wouldGain(0, 0), 3);
        x.setLabel(1, 1);
        Check.same("what a label keeps off is no gain", x.wouldGain(0, 0), 2);
        Check.same("its roles are as they were", x.near(0, 0), -1);
    }

    private static void wouldGainAll() {
        Check.about("Promise 40: from none to all, and by a role that is nearer");
        PolicyGate x = gate(12, 12, 24);
        deepRule(x, true, ROLE + 11, ALL, 0);
        Check.same("all", x.wouldGain(11, 11), 120);
        Check.same("none", x.wouldGain(11, 10), 0);
        x.setWeighing(2);
        x.setRole(11, 9, true);
        x.setHolds(9, 11, true);
        deepRule(x, false, ROLE + 9, ALL, 0);
        Check.same("denied by the nearer one", x.decide(11, READ, 0), 2);
        Check.same("as near as that, it denies", x.wouldGain(11, 11), 0);
        x.setHolds(10, 11, true);
        Check.same("no nearer", x.wouldGain(11, 10), 0);
        x.setHolds(8, 9, true);
        x.setRole(11, 8, true);
        x.setRole(11, 9, false);
        Check.same("nearer than that, it allows all", x.wouldGain(11, 11), 120);
    }

    private static void wouldGainByGrants() {
        Check.about("Promise 40: what would be is told with all GRANTS GOOD or not as they would be, too");
        PolicyGate x = gate(3, 1, 3);
        x.addRule(true, ROLE, 17, 0);
        x.grant(0, 1, READ, 0, 1, 60);
        x.grant(1, 0, READ, 1, 0, 60);
        Check.same("READ and SHARE on 0, READ on 1 and 2 given back", x.wouldGain(0, 0), 4);
        Check.same("the first would not be good by another", x.wouldGain(1, 0), 2);
        x.revoke(1);
        Check.same("nothing comes back", x.wouldGain(0, 0), 2);
    }

    private static void openness() {
        Check.about("Promise 41: how many are, divided by how many there are, not cut; 0 without users");
        PolicyGate x = gate(0, 1, 24);
        Check.same("without users", x.openness(), 0.0);
        for (int user = 0; user < 12; user++) {
            x.addUser(0, 0);
        }
        Check.same("none", x.openness(), 0.0);
        x.addRule(true, 11, 16, 23);
        Check.same("one of all", x.openness(), 1.0 / 1440.0);
        x.addRule(true, ROLE, ALL, 0);
        x.setRule(1, true, 0);
        for (int user = 0; user < 12; user++) {
            x.setRole(user, 0, true);
        }
        Check.same("all", x.openness(), 1.0);
        x.addRule(false, 0, 1, 0);
        Check.same("all but one", x.openness(), 1439.0 / 1440.0);
        x.setLabel(23, 3);
        Check.same("READ of the last one is kept off from all", x.openness(), 1427.0 / 1440.0);
    }

    private static void digestOfNew() {
        Check.about("Promise 42: a number d starts with 2579; d * 31 + v");
        List<Integer> values = new ArrayList<>(List.of(0, 0, 1, 0, 0, 0));
        values.add(0);
        for (int decision = 0; decision < 6; decision++) {
            values.add(0);
        }
        values.add(0);
        Check.same("a new gate", new PolicyGate().digest(), wrapped(values));
    }

    /** As told, without a bound, and then cut to 64 bits. */
    private static long wrapped(List<Integer> values) {
        BigInteger d = BigInteger.valueOf(2579);
        for (int v : values) {
            d = d.multiply(BigInteger.valueOf(31)).add(BigInteger.valueOf(v));
        }
        return d.longValue();
    }

    private static void digestWraps() {
        Check.about("Promise 42: which wraps around as a 64-bit integer, for each v in this order");
        PolicyGate x = gate(2, 2, 2);
        x.setHolds(0, 1, true);
        x.setRole(1, 0, true);
        x.addRule(true, ROLE + 1, 1 + 16, 0);
        x.addRule(false, 1, 2, 0);
        x.addRule(true, 1, 2 + 8, 0);
        x.grant(1, 0, READ, 0, 0, 60);
        x.grant(0, 1, READ, 0, 0, 60);
        x.goOn(10);
        x.access(1, READ, 0);
        x.access(1, DROP, 0);
        x.access(0, READ, 1);
        x.access(0, MAKE, 1);
        x.access(1, WRITE, 0);
        List<Integer> values = new ArrayList<>(List.of(2, 2, 2, 3, 2, 10));
        values.addAll(List.of(-1, -1, 1, 2));
        values.addAll(List.of(0, 1));
        values.addAll(List.of(1, 0));
        values.addAll(List.of(3, 3, 0, 0, 0, 0, 0, 0, 0, 0));
        values.addAll(List.of(1, 0, 2, 0, 0, 0, 1, 0, 1, 0));
        values.addAll(List.of(0, 0, -1, -1, -1, -1, -1, -1, -1, -1));
        values.addAll(List.of(0, -1, 1, -1, -1, -1, 2, -1, 0, -1));
        values.addAll(List.of(1, 2, 1, 1, 0, 0));
        values.addAll(List.of(0, 1));
        values.addAll(List.of(1 + 8, 0));
        values.add(1);
        Check.same("the digest", x.digest(), wrapped(values));
    }
}
