import java.math.BigInteger;
import java.util.ArrayList;
import java.util.List;

/** The same for promises 34 to 42: what one asks about all, and what would be. */
public final class AskingEdgeTest {
    private static final int READ = 0;
    private static final int WRITE = 1;
    private static final int MAKE = 2;
    private static final int DROP = 3;
    private static final int SHARE = 4;
    private static final int ALL = 31;
    private static final int ROLE = 12;

    private AskingEdgeTest() {
    }

    public static void main(String[] args) {
        who();
        reach();
        rolesNeededNone();
        rolesNeededOne();
        rolesNeededByNone();
        rolesNeededTwo();
        rolesNeededOfThisUser();
        rolesNeededApart();
        rolesNeededTwelve();
        contradictions();
        contradictionsForSome();
        contradictionsHereAndThere();
        contradictionsNow();
        isIdleWithoutUsers();
        isIdleSame();
        isIdleByGrants();
        wouldDiffer();
        wouldDifferByGrants();
        wouldGain();
        wouldGainAll();
        wouldGainByGrants();
        openness();
        digestOfNew();
        digestWraps();
        digestOfGrants();
        digestByEachWeighing();
        digestAsThingsStand();
        Check.end("AskingEdgeTest");
    }

    private static void who() {
        Check.about("Promise 34: the set of users to whom it is ALLOWED");
        PolicyGate x = Gates.gate(12, 1, 24);
        Check.same("none", x.who(SHARE, 23), 0);
        x.addRule(true, ROLE, 16, 23);
        x.setRole(11, 0, true);
        Check.same("the last", x.who(SHARE, 23), 2048);
        x.setRole(0, 0, true);
        Check.same("the first and the last", x.who(SHARE, 23), 2049);
        for (int user = 1; user < 11; user++) {
            x.grant(0, user, SHARE, 23, 0, 60);
        }
        Check.same("all", x.who(SHARE, 23), 4095);
        x.setRole(0, 0, false);
        Check.same("without the first, the grants fall", x.who(SHARE, 23), 2048);
        Check.same("without users", new PolicyGate().who(READ, 0), 0);
    }

    private static void reach() {
        Check.about("Promise 35: on how many resources it is ALLOWED to it");
        PolicyGate x = Gates.gate(2, 0, 24);
        Check.same("none", x.reach(1, SHARE), 0);
        x.addRule(true, 1, 16, 23);
        Check.same("the last", x.reach(1, SHARE), 1);
        x.addRule(true, 1, 16, 0);
        Check.same("the first and the last", x.reach(1, SHARE), 2);
        x.setRule(1, true, 0);
        Check.same("all", x.reach(1, SHARE), 24);
        Check.same("another action", x.reach(1, DROP), 0);
        Check.same("another user", x.reach(0, SHARE), 0);
        x.grant(1, 0, SHARE, 1, 0, 60);
        Check.same("by a grant", x.reach(0, SHARE), 23);
    }

    private static void rolesNeededNone() {
        Check.about("Promise 36: 0 if it is ALLOWED now");
        PolicyGate x = Gates.gate(2, 1, 1);
        x.addRule(true, 0, 17, 0);
        Check.same("by a rule for itself", x.rolesNeeded(0, READ, 0), 0);
        x.grant(0, 1, READ, 0, 0, 60);
        Check.same("by a grant", x.rolesNeeded(1, READ, 0), 0);
        x.addRule(true, ROLE, 2, 0);
        x.setRole(1, 0, true);
        Check.same("by a role that it has", x.rolesNeeded(1, WRITE, 0), 0);
        Check.same("without roles at all", gateThatAllows().rolesNeeded(0, READ, 0), 0);
        PolicyGate y = Gates.gate(2, 1, 2);
        y.addRule(true, 1, 2, 0);
        y.addRule(true, 1, 1, 1);
        Check.same("WRITE, not READ", y.rolesNeeded(1, WRITE, 0), 0);
        Check.same("not WRITE, but READ", y.rolesNeeded(1, WRITE, 1), -1);
        Check.same("READ beneath alone", y.rolesNeeded(1, READ, 0), -1);
        Check.same("not the other user", y.rolesNeeded(0, WRITE, 0), -1);
    }

    private static void rolesNeededOne() {
        Check.about("Promise 36: one more, whichever of all it is");
        for (int roles = 1; roles <= 12; roles++) {
            for (int role = 0; role < roles; role++) {
                PolicyGate x = Gates.gate(1, roles, 1);
                x.addRule(true, ROLE + role, 1, 0);
                Check.same(role + " of " + roles, x.rolesNeeded(0, READ, 0), 1);
                x.setRole(0, (role + 1) % roles, true);
                Check.same(role + " of " + roles + " besides another", x.rolesNeeded(0, READ, 0), roles == 1 ? 0 : 1);
            }
        }
    }

    private static PolicyGate gateThatAllows() {
        PolicyGate x = Gates.gate(1, 0, 1);
        x.addRule(true, 0, 1, 0);
        return x;
    }

    private static void rolesNeededByNone() {
        Check.about("Promise 36: -1 if it is not by any");
        PolicyGate x = Gates.gate(2, 0, 3);
        Check.same("there are no roles", x.rolesNeeded(0, READ, 0), -1);
        x.addRole();
        x.addRole();
        Check.same("there are no rules", x.rolesNeeded(0, READ, 0), -1);
        x.addRule(false, ROLE, 1, 0);
        Check.same("a role that denies", x.rolesNeeded(0, READ, 0), -1);
        x.addRule(true, ROLE + 1, 1, 0);
        Check.same("one that allows", x.rolesNeeded(0, READ, 0), 1);
        x.setLabel(0, 1);
        Check.same("a label", x.rolesNeeded(0, READ, 0), -1);
        x.setUser(0, 1, 0);
        x.setTerms(1, 1, 0, 23);
        Check.same("a trait that it has not", x.rolesNeeded(0, READ, 0), -1);
        x.setTerms(1, 0, 1, 23);
        Check.same("not in this hour", x.rolesNeeded(0, READ, 0), -1);
        x.goOn(60);
        Check.same("in the next one", x.rolesNeeded(0, READ, 0), 1);
        x.setRole(0, 0, true);
        Check.same("the one that denies is in its set", x.rolesNeeded(0, READ, 0), -1);
        x.setWeighing(1);
        Check.same("but does not count", x.rolesNeeded(0, READ, 0), 1);
        x.setWall(0, 0, 0);
        x.setWall(1, 0, 1);
        x.addRule(true, 0, 1, 2);
        x.access(0, READ, 2);
        Check.same("another wall", x.rolesNeeded(0, READ, 0), 1);
        x.setWall(2, 0, 2);
        Check.same("a wall", x.rolesNeeded(0, READ, 0), -1);
    }

    private static void rolesNeededTwo() {
        Check.about("Promise 36: how many roles at least its set would need more");
        PolicyGate x = Gates.gate(2, 12, 3);
        x.addRule(true, ROLE + 11, 1, 0);
        x.addRule(true, ROLE + 10, 16, 0);
        x.grant(0, 1, READ, 0, 2, 60);
        x.grant(1, 0, READ, 1, 1, 60);
        Check.same("READ and SHARE for its own grant, which comes back", x.rolesNeeded(0, READ, 2), 2);
        x.addRule(false, ROLE + 9, 1, 2);
        Check.same("a third that denies is not needed", x.rolesNeeded(0, READ, 2), 2);
        x.setHolds(8, 10, true);
        x.setHolds(8, 11, true);
        Check.same("one that holds both", x.rolesNeeded(0, READ, 2), 1);
        x.setHolds(8, 9, true);
        Check.same("it holds the one that denies, too", x.rolesNeeded(0, READ, 2), 2);
        x.setRole(0, 11, true);
        Check.same("it has one of the two", x.rolesNeeded(0, READ, 2), 1);
        x.setRole(0, 10, true);
        Check.same("it has both", x.rolesNeeded(0, READ, 2), 0);
        x.setRole(0, 10, false);
        x.revoke(1);
        Check.same("nothing comes back", x.rolesNeeded(0, READ, 2), -1);
        x.addRule(true, ROLE, 1, 2);
        Check.same("a role on it itself", x.rolesNeeded(0, READ, 2), 1);
    }

    private static void rolesNeededOfThisUser() {
        Check.about("Promise 36: its set would need more (of this user, with its traits, on this resource)");
        PolicyGate x = Gates.gate(3, 3, 4);
        x.setUser(1, 0, 1);
        x.addRule(true, ROLE + 1, 8, 2);
        x.setTerms(0, 1, 0, 23);
        Check.same("with the trait", x.rolesNeeded(1, DROP, 2), 1);
        Check.same("without it", x.rolesNeeded(0, DROP, 2), -1);
        Check.same("without it", x.rolesNeeded(2, DROP, 2), -1);
        x.addRule(true, ROLE + 2, 16, 2);
        x.grant(1, 2, DROP, 2, 1, 60);
        x.grant(2, 1, DROP, 2, 0, 60);
        Check.same("DROP beneath comes back to it", x.rolesNeeded(1, DROP, 3), 2);
        Check.same("not to the others", x.rolesNeeded(2, DROP, 3), -1);
        Check.same("not to the others", x.rolesNeeded(0, DROP, 3), -1);
        Check.same("not above", x.rolesNeeded(1, DROP, 1), -1);
        Check.same("no other action", x.rolesNeeded(1, WRITE, 3), -1);
    }

    private static void rolesNeededApart() {
        Check.about("Promise 36: and it would not HAVE two that are APART");
        PolicyGate x = Gates.gate(2, 5, 2);
        x.addRule(true, ROLE + 1, 1, 0);
        x.addRule(true, ROLE + 2, 16, 0);
        x.grant(0, 1, READ, 0, 1, 60);
        x.grant(1, 0, READ, 0, 0, 60);
        Check.same("two", x.rolesNeeded(0, READ, 1), 2);
        x.setApart(1, 2);
        Check.same("apart from each other", x.rolesNeeded(0, READ, 1), -1);
        x.setHolds(3, 1, true);
        Check.same("along another as well", x.rolesNeeded(0, READ, 1), -1);
        Check.same("one alone", x.rolesNeeded(0, READ, 0), 1);
        x.addRule(true, ROLE + 4, 17, 0);
        Check.same("another gives both", x.rolesNeeded(0, READ, 1), 1);
        x.setRole(0, 0, true);
        x.setApart(0, 4);
        Check.same("it is apart from what it has", x.rolesNeeded(0, READ, 1), -1);
        Check.same("the others are not", x.rolesNeeded(0, READ, 0), 1);
        x.setApart(0, 1);
        Check.same("now they are", x.rolesNeeded(0, READ, 0), -1);
        Check.same("another user has nothing that is apart", x.rolesNeeded(1, READ, 0), 1);
    }

    private static void rolesNeededTwelve() {
        Check.about("Promise 36: of 12 roles in a chain, with ten pairs apart");
        PolicyGate x = Gates.gate(12, 12, 24);
        for (int k = 1; k < 12; k++) {
            x.setHolds(k - 1, k, true);
        }
        x.addRule(true, ROLE + 11, 16, 23);
        for (int k = 1; k < 11; k++) {
            x.setApart(0, k);
        }
        Check.same("any but the first", x.rolesNeeded(11, SHARE, 23), 1);
        x.setHolds(10, 11, false);
        Check.same("the last alone", x.rolesNeeded(11, SHARE, 23), 1);
        x.setRole(11, 1, true);
        Check.same("besides another", x.rolesNeeded(11, SHARE, 23), 1);
        x.setHolds(11, 0, true);
        Check.same("it holds one that is apart", x.rolesNeeded(11, SHARE, 23), -1);
        x.setHolds(0, 1, false);
        Check.same("apart from what the user has", x.rolesNeeded(11, SHARE, 23), -1);
        Check.same("but not for another", x.rolesNeeded(0, SHARE, 23), 1);
    }

    private static void contradictions() {
        Check.about("Promise 37: how many pairs of RULES, one that allows and one that denies");
        PolicyGate x = Gates.gate(1, 0, 1);
        for (int k = 0; k < 30; k++) {
            x.addRule(k % 2 == 0, 0, ALL, 0);
            Check.same("of " + (k + 1), x.contradictions(), (k / 2 + 1) * ((k + 1) / 2));
        }
        Check.same("without users", withoutUsers().contradictions(), 0);
        PolicyGate y = Gates.gate(1, 0, 1);
        for (int k = 0; k < 30; k++) {
            y.addRule(k > 0, 0, ALL, 0);
            Check.same("the first denies, of " + (k + 1), y.contradictions(), k);
        }
        PolicyGate z = Gates.gate(1, 0, 1);
        for (int k = 0; k < 30; k++) {
            z.addRule(k < 29, 0, ALL, 0);
            Check.same("the last denies, of " + (k + 1), z.contradictions(), k < 29 ? 0 : 29);
        }
    }

    private static void contradictionsForSome() {
        Check.about("Promise 37: the same user, action and resource, for some (the first and the last of each)");
        for (int user = 0; user < 12; user += 11) {
            for (int resource = 0; resource < 24; resource += 23) {
                PolicyGate x = Gates.gate(12, 0, 24);
                for (int action = 0; action < 5; action++) {
                    x.addRule(true, user, 1 << action, resource);
                    Check.same("alone", x.contradictions(), action);
                    x.addRule(false, user, 1 << action, resource);
                    Check.same("user " + user + ", action " + action + ", resource " + resource, x.contradictions(),
                            action + 1);
                }
            }
        }
    }

    /** Rules for roles alone. */
    private static PolicyGate withoutUsers() {
        PolicyGate x = Gates.gate(0, 1, 1);
        x.addRule(true, ROLE, ALL, 0);
        x.addRule(false, ROLE, ALL, 0);
        return x;
    }

    private static void contradictionsHereAndThere() {
        Check.about("Promise 37: for some: a RULE may stand against one here and against another there");
        PolicyGate x = Gates.gate(1, 0, 4);
        Gates.deepRule(x, true, 0, ALL, 0);
        for (int resource = 0; resource < 4; resource++) {
            x.addRule(false, 0, 1, resource);
            Check.same("on 0 to " + resource, x.contradictions(), resource + 1);
        }
        Gates.deepRule(x, true, 0, ALL, 2);
        Check.same("a second one, on 2 and 3", x.contradictions(), 6);
    }

    private static void contradictionsNow() {
        Check.about("Promise 37: for which both MATCH the same user, action and resource now, for some");
        PolicyGate x = Gates.gate(3, 2, 3);
        Gates.deepRule(x, true, ROLE, 1 + 2, 1);
        Gates.deepRule(x, false, ROLE + 1, 2 + 4, 2);
        Check.same("nobody has a role", x.contradictions(), 0);
        x.setRole(0, 0, true);
        x.setRole(1, 1, true);
        Check.same("nobody has both", x.contradictions(), 0);
        x.setRole(2, 0, true);
        x.setRole(2, 1, true);
        Check.same("one has both", x.contradictions(), 1);
        x.setTerms(0, 0, 0, 0);
        x.setTerms(1, 0, 1, 1);
        Check.same("never in the same hour", x.contradictions(), 0);
        x.setTerms(1, 0, 1, 0);
        Check.same("in this one", x.contradictions(), 1);
        x.goOn(60);
        Check.same("not in the next one", x.contradictions(), 0);
        x.setTerms(0, 1, 0, 23);
        Check.same("a trait that is missing", x.contradictions(), 0);
        x.setUser(2, 0, 1);
        Check.same("a trait that is there", x.contradictions(), 1);
        x.setRule(0, false, 0);
        Check.same("not on the same resource", x.contradictions(), 0);
        x.setRule(0, true, 0);
        x.addRule(false, ROLE + 1, 4 + 8 + 16, 2);
        Check.same("not for the same action", x.contradictions(), 1);
    }

    private static void isIdleWithoutUsers() {
        Check.about("Promise 38: about all users (there are none)");
        Check.same("the first", withoutUsers().isIdle(0), true);
        Check.same("the last", withoutUsers().isIdle(1), true);
    }

    private static void isIdleSame() {
        Check.about("Promise 38: the same; 1 and 3 are not the same, but which RULE or GRANT it is does not count");
        PolicyGate x = Gates.gate(12, 0, 24);
        x.addRule(true, 11, 16, 23);
        Check.same("the last user, action and resource", x.isIdle(0), false);
        x.addRule(true, 11, 16, 23);
        Check.same("there is another", x.isIdle(0), true);
        Check.same("there is another", x.isIdle(1), true);
        x.dropRule(1);
        Gates.deepRule(x, true, 0, ALL, 0);
        x.grant(0, 11, SHARE, 23, 0, 60);
        Check.same("3 in the place of 1", x.isIdle(0), false);
        x.addRule(false, 1, 1, 0);
        Check.same("2 in the place of 0", x.isIdle(2), false);
        x.setTerms(2, 0, 1, 1);
        Check.same("not now", x.isIdle(2), true);
        x.goOn(59);
        Check.same("not yet", x.isIdle(2), true);
        x.goOn(1);
        Check.same("gone is the grant, now is the hour", x.isIdle(2), false);
    }

    private static void isIdleByGrants() {
        Check.about("Promise 38: what would be is told with all GRANTS GOOD or not as they would be, too");
        PolicyGate x = Gates.gate(3, 0, 1);
        x.addRule(true, 0, 17, 0);
        x.addRule(true, 0, 17, 0);
        x.grant(0, 1, READ, 0, 1, 60);
        x.grant(1, 2, READ, 0, 0, 60);
        Check.same("the grants rest on the other", x.isIdle(0), true);
        x.dropRule(1);
        x.setWall(0, 0, 0);
        x.addResource(0);
        x.addRule(true, 0, 16, 1);
        x.access(0, SHARE, 1);
        x.setWall(1, 0, 1);
        Check.same("the wall stands before it, and before the grant", x.isIdle(0), true);
        x.setWall(1, -1, 0);
        Check.same("without the wall", x.isIdle(0), false);
        PolicyGate y = Gates.gate(3, 0, 1);
        y.addRule(true, 0, 16, 0);
        y.addRule(true, 0, 1, 0);
        y.grant(0, 1, READ, 0, 1, 60);
        y.addRule(false, 1, 16, 0);
        y.addRule(true, 1, 1, 0);
        y.grant(1, 2, READ, 0, 0, 60);
        Check.same("the grant to another is good by a grant", y.isGood(1), true);
        y.revoke(0);
        Check.same("not any more", y.isGood(1), false);
        y.addRule(false, 2, 1, 0);
        Check.same("without it nothing is granted", y.isIdle(4), false);
    }

    private static void wouldDiffer() {
        Check.about("Promise 39: about how many of all users, actions and resources something else would be DECIDED");
        PolicyGate x = new PolicyGate();
        for (int weighing = 0; weighing < 4; weighing++) {
            Check.same("without users", x.wouldDiffer(weighing), 0);
        }
        PolicyGate y = Gates.gate(12, 1, 24);
        Gates.deepRule(y, false, ROLE, ALL, 0);
        Gates.deepRule(y, true, ROLE, ALL, 0);
        for (int user = 0; user < 12; user++) {
            y.setRole(user, 0, true);
        }
        Check.same("as it is", y.wouldDiffer(0), 0);
        Check.same("all", y.wouldDiffer(1), 1440);
        Check.same("none", y.wouldDiffer(2), 0);
        Check.same("none", y.wouldDiffer(3), 0);
        y.setWeighing(1);
        Check.same("all, the other way round", y.wouldDiffer(0), 1440);
        y.setRule(1, true, 1);
        Check.same("rank allows as well", y.wouldDiffer(3), 0);
        y.setRule(0, false, 0);
        Check.same("nearest: but for the root", y.wouldDiffer(2), 60);
        y.dropRule(0);
        for (int weighing = 0; weighing < 4; weighing++) {
            Check.same("with one rule", y.wouldDiffer(weighing), 0);
        }
    }

    private static void wouldDifferByGrants() {
        Check.about("Promise 39: what would be is told with all GRANTS GOOD or not as they would be, too");
        PolicyGate x = Gates.gate(4, 0, 3);
        Gates.deepRule(x, true, 0, 17, 0);
        x.grant(0, 1, READ, 1, 1, 60);
        x.grant(1, 2, READ, 2, 0, 60);
        x.addRule(false, 0, 16, 1);
        Check.same("READ on 1 and 2, READ on 2, and SHARE on 1", x.wouldDiffer(1), 4);
        x.addRule(true, 2, 1, 2);
        Check.same("which grant it is does not count, but a rule stands before", x.wouldDiffer(1), 3);
        x.goOn(60);
        Check.same("the grants have ended", x.wouldDiffer(1), 1);
    }

    private static void wouldGain() {
        Check.about("Promise 40: for how many actions and resources; if that was in its set (APART or not)");
        PolicyGate x = Gates.gate(2, 3, 2);
        Check.same("without rules", x.wouldGain(0, 0), 0);
        Gates.deepRule(x, true, ROLE, 3, 0);
        Check.same("two on two", x.wouldGain(0, 0), 4);
        x.setApart(0, 1);
        x.setRole(0, 1, true);
        Check.same("apart", x.wouldGain(0, 0), 4);
        x.setHolds(2, 0, true);
        Check.same("apart along another", x.wouldGain(0, 2), 4);
        x.setRole(1, 0, true);
        Check.same("it has it", x.wouldGain(1, 0), 0);
        x.addRule(true, 0, 1, 0);
        Check.same("what is allowed is no gain", x.wouldGain(0, 0), 3);
        x.addRule(false, ROLE, 1, 0);
        Check.same("what would be lost is not taken off", x.wouldGain(0, 0), 3);
        x.setLabel(1, 1);
        Check.same("what a label keeps off is no gain", x.wouldGain(0, 0), 2);
        Check.same("its roles are as they were", x.near(0, 0), -1);
        PolicyGate y = Gates.gate(1, 1, 2);
        y.addRule(true, 0, 2, 0);
        y.addRule(true, ROLE, 1, 1);
        Check.same("action 1 on 0 is not action 0 on 1", y.wouldGain(0, 0), 1);
    }

    private static void wouldGainAll() {
        Check.about("Promise 40: from none to all, and by a role that is nearer");
        PolicyGate x = Gates.gate(12, 12, 24);
        Gates.deepRule(x, true, ROLE + 11, ALL, 0);
        Check.same("all", x.wouldGain(11, 11), 120);
        Check.same("none", x.wouldGain(11, 10), 0);
        x.setWeighing(2);
        x.setRole(11, 9, true);
        x.setHolds(9, 11, true);
        Gates.deepRule(x, false, ROLE + 9, ALL, 0);
        Check.same("denied by the nearer one", x.decide(11, READ, 0), 2);
        Check.same("as near as that, it denies", x.wouldGain(11, 11), 0);
        x.setHolds(10, 11, true);
        Check.same("no nearer", x.wouldGain(11, 10), 0);
        x.setHolds(8, 9, true);
        x.setRole(11, 8, true);
        x.setRole(11, 9, false);
        Check.same("nearer than that, it allows all", x.wouldGain(11, 11), 120);
    }

    private static void wouldGainByGrants() {
        Check.about("Promise 40: what would be is told with all GRANTS GOOD or not as they would be, too");
        PolicyGate x = Gates.gate(3, 1, 3);
        x.addRule(true, ROLE, 17, 0);
        x.grant(0, 1, READ, 0, 1, 60);
        x.grant(1, 0, READ, 1, 0, 60);
        Check.same("READ and SHARE on 0, READ on 1 and 2 given back", x.wouldGain(0, 0), 4);
        Check.same("the first would not be good by another", x.wouldGain(1, 0), 2);
        x.revoke(1);
        Check.same("nothing comes back", x.wouldGain(0, 0), 2);
    }

    private static void openness() {
        Check.about("Promise 41: how many are, divided by how many there are, not cut; 0 without users");
        PolicyGate x = Gates.gate(0, 1, 24);
        Check.same("without users", x.openness(), 0.0);
        for (int user = 0; user < 12; user++) {
            x.addUser(0, 0);
        }
        Check.same("none", x.openness(), 0.0);
        x.addRule(true, 11, 16, 23);
        Check.same("one of all", x.openness(), 1.0 / 1440.0);
        x.addRule(true, ROLE, ALL, 0);
        x.setRule(1, true, 0);
        for (int user = 0; user < 12; user++) {
            x.setRole(user, 0, true);
        }
        Check.same("all", x.openness(), 1.0);
        x.addRule(false, 0, 1, 0);
        Check.same("all but one", x.openness(), 1439.0 / 1440.0);
        x.setLabel(23, 3);
        Check.same("READ of the last one is kept off from all", x.openness(), 1427.0 / 1440.0);
    }

    private static void digestOfNew() {
        Check.about("Promise 42: a number d starts with 2579; d * 31 + v");
        List<Integer> values = new ArrayList<>(List.of(0, 0, 1, 0, 0, 0));
        values.add(0);
        for (int decision = 0; decision < 6; decision++) {
            values.add(0);
        }
        values.add(0);
        Check.same("a new gate", new PolicyGate().digest(), wrapped(values));
    }

    /** As told, without a bound, and then cut to 64 bits. */
    private static long wrapped(List<Integer> values) {
        BigInteger d = BigInteger.valueOf(2579);
        for (int v : values) {
            d = d.multiply(BigInteger.valueOf(31)).add(BigInteger.valueOf(v));
        }
        return d.longValue();
    }

    private static void digestWraps() {
        Check.about("Promise 42: which wraps around as a 64-bit integer, for each v in this order");
        PolicyGate x = Gates.gate(2, 2, 2);
        x.setHolds(0, 1, true);
        x.setRole(1, 0, true);
        x.addRule(true, ROLE + 1, 1 + 16, 0);
        x.addRule(false, 1, 2, 0);
        x.addRule(true, 1, 2 + 8, 0);
        x.grant(1, 0, READ, 0, 0, 60);
        x.grant(0, 1, READ, 0, 0, 60);
        x.goOn(10);
        x.access(1, READ, 0);
        x.access(1, DROP, 0);
        x.access(0, READ, 1);
        x.access(0, MAKE, 1);
        x.access(1, WRITE, 0);
        List<Integer> values = new ArrayList<>(List.of(2, 2, 2, 3, 2, 10));
        values.addAll(List.of(-1, -1, 1, 2));
        values.addAll(List.of(0, 1));
        values.addAll(List.of(1, 0));
        values.addAll(List.of(3, 3, 0, 0, 0, 0, 0, 0, 0, 0));
        values.addAll(List.of(1, 0, 2, 0, 0, 0, 1, 0, 1, 0));
        values.addAll(List.of(0, 0, -1, -1, -1, -1, -1, -1, -1, -1));
        values.addAll(List.of(0, -1, 1, -1, -1, -1, 2, -1, 0, -1));
        values.addAll(List.of(1, 2, 1, 1, 0, 0));
        values.addAll(List.of(0, 1));
        values.addAll(List.of(1 + 8, 0));
        values.add(1);
        Check.same("the digest", x.digest(), wrapped(values));
        Check.same("the digest again", x.digest(), wrapped(values));
    }

    private static void digestAsThingsStand() {
        Check.about("Promise 42: each v as it is now, though nothing was asked since it changed");
        PolicyGate x = Gates.gate(1, 0, 1);
        Check.same("nothing", x.digest(), ofOne(0, 0, 0, -1));
        x.addRule(true, 0, 1, 0);
        Check.same("a rule was added", x.digest(), ofOne(1, 0, 1, 0));
        x.setTerms(0, 0, 0, 0);
        x.goOn(60);
        Check.same("its hours are over", x.digest(), ofOne(1, 60, 0, -1));
        x.goOn(1380);
        Check.same("a day is over", x.digest(), ofOne(1, 1440, 1, 0));
        x.dropRule(0);
        Check.same("it was dropped", x.digest(), ofOne(0, 1440, 0, -1));
    }

    private static void digestOfGrants() {
        Check.about("Promise 42: for each GRANT isGood() (1 if so, 0 if not)");
        PolicyGate x = Gates.gate(2, 0, 1);
        x.addRule(true, 1, 17, 0);
        x.grant(0, 1, WRITE, 0, 0, 60);
        x.grant(1, 0, WRITE, 0, 0, 60);
        x.grant(1, 0, SHARE, 0, 0, 60);
        List<Integer> values = new ArrayList<>(List.of(2, 0, 1, 1, 3, 0));
        values.add(0);
        values.addAll(List.of(0, 0, 1));
        values.addAll(List.of(0, 0, 0, 0, 3));
        values.addAll(List.of(1, 0, 0, 0, 1));
        values.addAll(List.of(-1, -1, -1, -1, 2));
        values.addAll(List.of(0, -1, -1, -1, 0));
        values.addAll(List.of(0, 0, 0, 0, 0, 0));
        values.addAll(List.of(0, 0));
        values.add(0);
        Check.same("the third alone is good", x.digest(), wrapped(values));
    }

    private static void digestByEachWeighing() {
        Check.about("Promise 42: decide() and why() by the way of weighing");
        PolicyGate x = Gates.gate(1, 1, 1);
        x.setRole(0, 0, true);
        x.addRule(false, ROLE, 1, 0);
        x.addRule(true, ROLE, 1, 0);
        x.addRule(true, 0, 1, 0);
        x.addRule(false, ROLE, 1, 0);
        x.setRule(3, false, 5);
        for (int weighing = 0; weighing < 4; weighing++) {
            x.setWeighing(weighing);
            List<Integer> values = new ArrayList<>(List.of(1, 1, 1, 4, 0, 0));
            values.addAll(List.of(1, 0));
            values.addAll(List.of(weighing == 1 || weighing == 2 ? 1 : 2, 0, 0, 0, 0));
            values.addAll(List.of(weighing, -1, -1, -1, -1));
            values.addAll(List.of(0, 0, 0, 0, 0, 0));
            values.addAll(List.of(0, 4));
            Check.same("weighing " + weighing, x.digest(), wrapped(values));
        }
    }

    /** For one user and the root, with so many rules for READ, and what is decided about that and why. */
    private static long ofOne(int rules, int clock, int decided, int why) {
        List<Integer> values = new ArrayList<>(List.of(1, 0, 1, rules, 0, clock));
        values.add(0);
        values.addAll(List.of(decided, 0, 0, 0, 0));
        values.addAll(List.of(why, -1, -1, -1, -1));
        values.addAll(List.of(0, 0, 0, 0, 0, 0));
        values.addAll(List.of(0, 0));
        return wrapped(values);
    }
}
