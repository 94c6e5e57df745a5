import java.util.Arrays;

/**
 * A gate that decides who may do what.
 *
 * <p>What has been told stands in {@link Told}; what follows from it is worked out anew by a {@link View} for each
 * question, so that a question about what would be never touches what is. Sets are numbers, one bit for each member.
 */
public final class PolicyGate {
    private static final int MOST_USERS = 12;
    private static final int MOST_ROLES = 12;
    private static final int MOST_APART = 10;
    private static final int MOST_RESOURCES = 24;
    private static final int MOST_RULES = 30;
    private static final int MOST_GRANTS = 30;

    private static final int GREATEST_LEVEL = 3;
    private static final int GREATEST_TRAITS = 255;
    private static final int GREATEST_RANK = 9;
    private static final int GREATEST_HANDS = 3;
    private static final int GREATEST_WALL = 3;
    private static final int NO_WALL = -1;
    private static final int LAST_HOUR = 23;
    private static final int MOST_MINUTES = 10000;

    /** The set of rules to leave out, to see what is and not what would be. */
    private static final int NO_RULE = 0;

    private static final int READ = 0;
    private static final int SHARE = 4;
    private static final int ACTIONS = 5;
    private static final int ALL_ACTIONS = 31;

    private static final int BY_ALLOWS = 1;
    private static final int BY_NEAREST = 2;
    private static final int BY_RANK = 3;

    private static final int NOTHING = 0;
    private static final int ALLOWED = 1;
    private static final int DENIED = 2;
    private static final int GRANTED = 3;
    private static final int LABELLED = 4;
    private static final int WALLED = 5;
    private static final int DECISIONS = 6;

    /** In the number that tells for whom a rule is, the roles stand behind all users. */
    private static final int FIRST_ROLE = 12;

    private final Told told;
    private final View now;
    private final View would;
    private final Row counts;

    public PolicyGate() {
        Told nothingYet = new Told();
        told = nothingYet;
        now = new View(nothingYet);
        would = new View(nothingYet);
        counts = new Row(DECISIONS, 0);
    }

    // ---- who and what

    public int addUser(int clearance, int traits) throws IllegalArgumentException, IllegalStateException {
        checkArguments(isUpTo(clearance, GREATEST_LEVEL) && isUpTo(traits, GREATEST_TRAITS));
        checkState(told.users.count < MOST_USERS);
        return told.users.add(clearance, traits);
    }

    public int addRole() throws IllegalStateException {
        checkState(told.roles.count < MOST_ROLES);
        return told.roles.add();
    }

    public int addResource(int parent) throws IndexOutOfBoundsException, IllegalStateException {
        checkThere(isResource(parent));
        checkState(told.tree.count < MOST_RESOURCES);
        return told.tree.add(parent);
    }

    public boolean setRole(int user, int role, boolean has) throws IndexOutOfBoundsException, IllegalStateException {
        checkThere(isUser(user) && isRole(role));
        int before = told.users.sets.at(user);
        int after = has ? before | 1 << role : before & ~(1 << role);
        checkState(!told.roles.isSplit(told.roles.hadWith(after)));
        told.users.sets.put(user, after);
        return isIn(before, role);
    }

    public boolean setHolds(int role, int other, boolean holds)
            throws IndexOutOfBoundsException, IllegalArgumentException, IllegalStateException {
        checkThere(isRole(role) && isRole(other));
        checkArguments(role != other && !(holds && isIn(told.roles.hadWith(1 << other), role)));
        checkState(!holds || !wouldSplitSomeone(role, other));
        int before = told.roles.holds.at(role);
        told.roles.holds.put(role, holds ? before | 1 << other : before & ~(1 << other));
        return isIn(before, other);
    }

    public int setApart(int role, int other)
            throws IndexOutOfBoundsException, IllegalArgumentException, IllegalStateException {
        checkThere(isRole(role) && isRole(other));
        checkArguments(role != other);
        checkState(!isIn(told.roles.apart.at(role), other) && told.roles.pairs < MOST_APART
                && !isAnyoneWith(role, other));
        return told.roles.part(role, other);
    }

    public int setUser(int user, int clearance, int traits)
            throws IndexOutOfBoundsException, IllegalArgumentException {
        checkThere(isUser(user));
        checkArguments(isUpTo(clearance, GREATEST_LEVEL) && isUpTo(traits, GREATEST_TRAITS));
        int before = told.users.traits.at(user);
        told.users.clearance.put(user, clearance);
        told.users.traits.put(user, traits);
        return before;
    }

    public int setLabel(int resource, int label) throws IndexOutOfBoundsException, IllegalArgumentException {
        checkThere(isResource(resource));
        checkArguments(isUpTo(label, GREATEST_LEVEL));
        int before = told.tree.label.at(resource);
        told.tree.label.put(resource, label);
        return before;
    }

    public boolean setWall(int resource, int itsClass, int house)
            throws IndexOutOfBoundsException, IllegalArgumentException {
        checkThere(isResource(resource));
        checkArguments(itsClass == NO_WALL || isUpTo(itsClass, GREATEST_WALL) && isUpTo(house, GREATEST_WALL));
        boolean hadOne = told.tree.itsClass.at(resource) != NO_WALL;
        told.tree.itsClass.put(resource, itsClass);
        told.tree.house.put(resource, house);
        return hadOne;
    }

    public int users() {
        return told.users.count;
    }

    public int roles() {
        return told.roles.count;
    }

    public int resources() {
        return told.tree.count;
    }

    public int near(int user, int role) throws IndexOutOfBoundsException {
        checkThere(isUser(user) && isRole(role));
        return told.roles.nearBy(told.users.sets.at(user), role);
    }

    public int far(int resource, int above) throws IndexOutOfBoundsException {
        checkThere(isResource(resource) && isResource(above));
        return told.tree.farUp(resource, above);
    }

    // ---- rules

    public int addRule(boolean allows, int who, int actions, int resource)
            throws IndexOutOfBoundsException, IllegalArgumentException, IllegalStateException {
        checkThere((who < FIRST_ROLE ? isUser(who) : isRole(who - FIRST_ROLE)) && isResource(resource));
        checkArguments(actions >= 1 && actions <= ALL_ACTIONS);
        checkState(told.rules.count < MOST_RULES);
        return told.rules.add(allows, who, actions, resource);
    }

    public int setRule(int rule, boolean isDeep, int rank) throws IndexOutOfBoundsException, IllegalArgumentException {
        checkThere(isRule(rule));
        checkArguments(isUpTo(rank, GREATEST_RANK));
        int before = told.rules.rank.at(rule);
        told.rules.deep.put(rule, isDeep ? 1 : 0);
        told.rules.rank.put(rule, rank);
        return before;
    }

    public int setTerms(int rule, int traits, int first, int last)
            throws IndexOutOfBoundsException, IllegalArgumentException {
        checkThere(isRule(rule));
        checkArguments(isUpTo(traits, GREATEST_TRAITS) && isUpTo(first, LAST_HOUR) && isUpTo(last, LAST_HOUR));
        int before = told.rules.traits.at(rule);
        told.rules.traits.put(rule, traits);
        told.rules.first.put(rule, first);
        told.rules.last.put(rule, last);
        return before;
    }

    public int dropRule(int rule) throws IndexOutOfBoundsException {
        checkThere(isRule(rule));
        return told.rules.drop(rule);
    }

    public int rules() {
        return told.rules.count;
    }

    public int setWeighing(int weighing) throws IllegalArgumentException {
        checkArguments(isUpTo(weighing, BY_RANK));
        int before = told.weighing;
        told.weighing = weighing;
        return before;
    }

    public boolean matches(int rule, int user, int action, int resource) throws IndexOutOfBoundsException {
        checkThere(isRule(rule));
        checkAsked(user, action, resource);
        now.look(told.weighing, NO_RULE);
        return isIn(now.matching(user, action, resource), rule);
    }

    public int goOn(int minutes) throws IllegalArgumentException {
        checkArguments(minutes >= 1 && minutes <= MOST_MINUTES);
        told.clock += minutes;
        return told.hour();
    }

    public int clock() {
        return told.clock;
    }

    // ---- grants

    public int grant(int from, int to, int action, int resource, int hands, int minutes)
            throws IndexOutOfBoundsException, IllegalArgumentException, IllegalStateException {
        checkThere(isUser(from) && isUser(to) && isAction(action) && isResource(resource));
        checkArguments(from != to && isUpTo(hands, GREATEST_HANDS) && minutes >= 1 && minutes <= MOST_MINUTES);
        checkState(told.grants.count < MOST_GRANTS);
        return told.grants.add(from, to, action, resource, hands, told.clock + minutes);
    }

    public boolean revoke(int grant) throws IndexOutOfBoundsException {
        checkThere(isGrant(grant));
        boolean wasThere = told.isThere(grant);
        if (wasThere) {
            told.grants.end.put(grant, told.clock);
        }
        return wasThere;
    }

    public int grants() {
        return told.grants.count;
    }

    public boolean isGood(int grant) throws IndexOutOfBoundsException {
        checkThere(isGrant(grant));
        now.look(told.weighing, NO_RULE);
        return isIn(now.good, grant);
    }

    // ---- decisions

    public int decide(int user, int action, int resource) throws IndexOutOfBoundsException {
        checkAsked(user, action, resource);
        now.look(told.weighing, NO_RULE);
        return now.decided(user, action, resource);
    }

    public int why(int user, int action, int resource) throws IndexOutOfBoundsException {
        checkAsked(user, action, resource);
        now.look(told.weighing, NO_RULE);
        return now.reason(user, action, resource);
    }

    public int access(int user, int action, int resource) throws IndexOutOfBoundsException {
        checkAsked(user, action, resource);
        now.look(told.weighing, NO_RULE);
        int decision = now.decided(user, action, resource);
        if (decision == ALLOWED || decision == GRANTED) {
            told.users.note(user, action, resource);
        }
        counts.put(decision, counts.at(decision) + 1);
        return decision;
    }

    public int counted(int decision) throws IllegalArgumentException {
        checkArguments(isUpTo(decision, WALLED));
        return counts.at(decision);
    }

    public int done(int user, int resource) throws IndexOutOfBoundsException {
        checkThere(isUser(user) && isResource(resource));
        return told.users.doneOn(user, resource);
    }

    // ---- asking (what would be is told with all GRANTS GOOD or not as they would be, too)

    public int who(int action, int resource) throws IndexOutOfBoundsException {
        checkThere(isAction(action) && isResource(resource));
        now.look(told.weighing, NO_RULE);
        int set = 0;
        for (int user = 0; user < told.users.count; user++) {
            if (now.isAllowed(user, action, resource)) {
                set |= 1 << user;
            }
        }
        return set;
    }

    public int reach(int user, int action) throws IndexOutOfBoundsException {
        checkThere(isUser(user) && isAction(action));
        now.look(told.weighing, NO_RULE);
        return now.allowedTo(user, action);
    }

    public int rolesNeeded(int user, int action, int resource) throws IndexOutOfBoundsException {
        checkAsked(user, action, resource);
        would.look(told.weighing, NO_RULE);
        if (would.isAllowed(user, action, resource)) {
            return 0;
        }
        // Two more are enough, if any are: what is allowed rests on one rule that decides or, by a grant that comes
        // back to the user, on two, for the action and for SHARE; roles that lead to neither add only rules against it.
        int set = told.users.sets.at(user);
        int fewest = -1;
        for (int role = 0; role < told.roles.count; role++) {
            for (int other = 0; other <= role; other++) {
                int then = set | 1 << role | 1 << other;
                int more = Integer.bitCount(then & ~set);
                boolean isWorthTrying = more > 0 && (fewest < 0 || more < fewest);
                if (isWorthTrying && wouldBeAllowed(user, then, action, resource)) {
                    fewest = more;
                }
            }
        }
        return fewest;
    }

    public int contradictions() {
        now.look(told.weighing, NO_RULE);
        return now.opposedPairs();
    }

    public boolean isIdle(int rule) throws IndexOutOfBoundsException {
        checkThere(isRule(rule));
        now.look(told.weighing, NO_RULE);
        would.look(told.weighing, 1 << rule);
        return now.differences(would) == 0;
    }

    public int wouldDiffer(int weighing) throws IllegalArgumentException {
        checkArguments(isUpTo(weighing, BY_RANK));
        now.look(told.weighing, NO_RULE);
        would.look(weighing, NO_RULE);
        return now.differences(would);
    }

    public int wouldGain(int user, int role) throws IndexOutOfBoundsException {
        checkThere(isUser(user) && isRole(role));
        now.look(told.weighing, NO_RULE);
        would.look(told.weighing, NO_RULE);
        would.giveSet(user, told.users.sets.at(user) | 1 << role);
        would.weighGrants();
        int gained = 0;
        for (int action = 0; action < ACTIONS; action++) {
            for (int resource = 0; resource < told.tree.count; resource++) {
                if (would.isAllowed(user, action, resource) && !now.isAllowed(user, action, resource)) {
                    gained++;
                }
            }
        }
        return gained;
    }

    public double openness() {
        int all = told.users.count * ACTIONS * told.tree.count;
        if (all <= 0) {
            return 0.0;
        }
        now.look(told.weighing, NO_RULE);
        int allowed = 0;
        for (int user = 0; user < told.users.count; user++) {
            for (int action = 0; action < ACTIONS; action++) {
                allowed += now.allowedTo(user, action);
            }
        }
        return (double) allowed / (double) all;
    }

    public long digest() {
        now.look(told.weighing, NO_RULE);
        long sum = withNumbers(2579L);
        sum = withNear(sum);
        for (int resource = 0; resource < told.tree.count; resource++) {
            sum = sum * 31 + told.tree.farUp(resource, 0);
        }
        for (int grant = 0; grant < told.grants.count; grant++) {
            sum = sum * 31 + (isIn(now.good, grant) ? 1 : 0);
        }
        sum = withDecisions(sum);
        sum = withReasons(sum);
        for (int decision = 0; decision < DECISIONS; decision++) {
            sum = sum * 31 + counts.at(decision);
        }
        sum = withDone(sum);
        return sum * 31 + now.opposedPairs();
    }

    private long withNumbers(long sum) {
        long with = sum * 31 + told.users.count;
        with = with * 31 + told.roles.count;
        with = with * 31 + told.tree.count;
        with = with * 31 + told.rules.count;
        with = with * 31 + told.grants.count;
        return with * 31 + told.clock;
    }

    private long withNear(long sum) {
        long with = sum;
        for (int user = 0; user < told.users.count; user++) {
            for (int role = 0; role < told.roles.count; role++) {
                with = with * 31 + told.roles.nearBy(told.users.sets.at(user), role);
            }
        }
        return with;
    }

    private long withDecisions(long sum) {
        long with = sum;
        for (int user = 0; user < told.users.count; user++) {
            for (int action = 0; action < ACTIONS; action++) {
                for (int resource = 0; resource < told.tree.count; resource++) {
                    with = with * 31 + now.decided(user, action, resource);
                }
            }
        }
        return with;
    }

    private long withReasons(long sum) {
        long with = sum;
        for (int user = 0; user < told.users.count; user++) {
            for (int action = 0; action < ACTIONS; action++) {
                for (int resource = 0; resource < told.tree.count; resource++) {
                    with = with * 31 + now.reason(user, action, resource);
                }
            }
        }
        return with;
    }

    private long withDone(long sum) {
        long with = sum;
        for (int user = 0; user < told.users.count; user++) {
            for (int resource = 0; resource < told.tree.count; resource++) {
                with = with * 31 + told.users.doneOn(user, resource);
            }
        }
        return with;
    }

    /** Grants are weighed only where no rule decides: most sets of roles are settled without them. */
    private boolean wouldBeAllowed(int user, int set, int action, int resource) {
        if (told.roles.isSplit(told.roles.hadWith(set))) {
            return false;
        }
        would.giveSet(user, set);
        int ruled = would.ruled(user, action, resource);
        if (ruled != NOTHING) {
            return ruled == ALLOWED;
        }
        would.weighGrants();
        return would.grantFor(user, action, resource) >= 0;
    }

    /** Whether a user would have two roles apart, if the one role held the other. */
    private boolean wouldSplitSomeone(int role, int other) {
        int added = told.roles.hadWith(1 << other);
        for (int user = 0; user < told.users.count; user++) {
            int had = told.roles.hadWith(told.users.sets.at(user));
            if (isIn(had, role) && told.roles.isSplit(had | added)) {
                return true;
            }
        }
        return false;
    }

    private boolean isAnyoneWith(int role, int other) {
        for (int user = 0; user < told.users.count; user++) {
            int had = told.roles.hadWith(told.users.sets.at(user));
            if (isIn(had, role) && isIn(had, other)) {
                return true;
            }
        }
        return false;
    }

    private boolean isUser(int user) {
        return user >= 0 && user < told.users.count;
    }

    private boolean isRole(int role) {
        return role >= 0 && role < told.roles.count;
    }

    private boolean isResource(int resource) {
        return resource >= 0 && resource < told.tree.count;
    }

    private boolean isRule(int rule) {
        return rule >= 0 && rule < told.rules.count;
    }

    private boolean isGrant(int grant) {
        return grant >= 0 && grant < told.grants.count;
    }

    private static boolean isAction(int action) {
        return action >= 0 && action < ACTIONS;
    }

    private static boolean isUpTo(int number, int greatest) {
        return number >= 0 && number <= greatest;
    }

    private static boolean isIn(int set, int member) {
        return (set >> member & 1) == 1;
    }

    private void checkAsked(int user, int action, int resource) {
        checkThere(isUser(user) && isAction(action) && isResource(resource));
    }

    private static void checkThere(boolean isThere) {
        if (!isThere) {
            throw new IndexOutOfBoundsException("there is no such one");
        }
    }

    private static void checkArguments(boolean areRight) {
        if (!areRight) {
            throw new IllegalArgumentException("this can not be asked for");
        }
    }

    private static void checkState(boolean isFree) {
        if (!isFree) {
            throw new IllegalStateException("this can not be as things stand");
        }
    }

    /** A row of numbers that looks at each index before it uses it. */
    private static final class Row {
        private final int[] cells;

        Row(int length, int each) {
            cells = new int[Math.max(length, 0)];
            Arrays.fill(cells, each);
        }

        int at(int index) {
            return index >= 0 && index < cells.length ? cells[index] : 0;
        }

        void put(int index, int value) {
            if (index >= 0 && index < cells.length) {
                cells[index] = value;
            }
        }

        /** Those behind it come one nearer. */
        void takeOut(int index) {
            for (int k = Math.max(index, 0); k < cells.length - 1; k++) {
                cells[k] = cells[k + 1];
            }
        }

        void clear() {
            Arrays.fill(cells, 0);
        }
    }

    private static final class Users {
        private int count;
        private final Row clearance = new Row(MOST_USERS, 0);
        private final Row traits = new Row(MOST_USERS, 0);
        private final Row sets = new Row(MOST_USERS, 0);
        private final Row doneSets = new Row(MOST_USERS * MOST_RESOURCES, 0);

        int add(int itsClearance, int itsTraits) {
            int user = count;
            clearance.put(user, itsClearance);
            traits.put(user, itsTraits);
            count++;
            return user;
        }

        int doneOn(int user, int resource) {
            return doneSets.at(user * MOST_RESOURCES + resource);
        }

        void note(int user, int action, int resource) {
            doneSets.put(user * MOST_RESOURCES + resource, doneOn(user, resource) | 1 << action);
        }
    }

    private static final class Roles {
        private int count;
        private int pairs;
        private final Row holds = new Row(MOST_ROLES, 0);
        private final Row apart = new Row(MOST_ROLES, 0);

        int add() {
            int role = count;
            count++;
            return role;
        }

        int part(int role, int other) {
            apart.put(role, apart.at(role) | 1 << other);
            apart.put(other, apart.at(other) | 1 << role);
            pairs++;
            return pairs;
        }

        /** The roles that those of the set hold themselves, not along others. */
        int heldBy(int set) {
            int held = 0;
            for (int role = 0; role < count; role++) {
                if (isIn(set, role)) {
                    held |= holds.at(role);
                }
            }
            return held;
        }

        int hadWith(int set) {
            int had = set;
            int newest = set;
            for (int step = 0; step < MOST_ROLES && newest != 0; step++) {
                newest = heldBy(newest) & ~had;
                had |= newest;
            }
            return had;
        }

        /** No role holds itself, so the first step that comes to the role is the least. */
        int nearBy(int set, int role) {
            int reached = set;
            for (int step = 1; step <= MOST_ROLES && reached != 0; step++) {
                if (isIn(reached, role)) {
                    return step;
                }
                reached = heldBy(reached);
            }
            return -1;
        }

        boolean isSplit(int had) {
            for (int role = 0; role < count; role++) {
                if (isIn(had, role) && (apart.at(role) & had) != 0) {
                    return true;
                }
            }
            return false;
        }
    }

    private static final class Tree {
        private int count = 1;
        private final Row depth = new Row(MOST_RESOURCES, 0);
        private final Row above = new Row(MOST_RESOURCES, 0);
        private final Row label = new Row(MOST_RESOURCES, 0);
        private final Row itsClass = new Row(MOST_RESOURCES, NO_WALL);
        private final Row house = new Row(MOST_RESOURCES, 0);

        int add(int parent) {
            int resource = count;
            depth.put(resource, depth.at(parent) + 1);
            above.put(resource, above.at(parent) | 1 << parent);
            count++;
            return resource;
        }

        boolean isBeneath(int resource, int other) {
            return resource == other || isIn(above.at(resource), other);
        }

        int farUp(int resource, int other) {
            return isBeneath(resource, other) ? depth.at(resource) - depth.at(other) : -1;
        }
    }

    private static final class Rules {
        private int count;
        private final Row allows = new Row(MOST_RULES, 0);
        private final Row forWhom = new Row(MOST_RULES, 0);
        private final Row actions = new Row(MOST_RULES, 0);
        private final Row resource = new Row(MOST_RULES, 0);
        private final Row deep = new Row(MOST_RULES, 0);
        private final Row rank = new Row(MOST_RULES, 0);
        private final Row traits = new Row(MOST_RULES, 0);
        private final Row first = new Row(MOST_RULES, 0);
        private final Row last = new Row(MOST_RULES, 0);

        int add(boolean isAllowing, int who, int itsActions, int itsResource) {
            int rule = count;
            allows.put(rule, isAllowing ? 1 : 0);
            forWhom.put(rule, who);
            actions.put(rule, itsActions);
            resource.put(rule, itsResource);
            deep.put(rule, 0);
            rank.put(rule, 0);
            traits.put(rule, 0);
            first.put(rule, 0);
            last.put(rule, LAST_HOUR);
            count++;
            return rule;
        }

        int drop(int rule) {
            allows.takeOut(rule);
            forWhom.takeOut(rule);
            actions.takeOut(rule);
            resource.takeOut(rule);
            deep.takeOut(rule);
            rank.takeOut(rule);
            traits.takeOut(rule);
            first.takeOut(rule);
            last.takeOut(rule);
            count--;
            return count;
        }

        boolean holdsIn(int rule, int hour) {
            int from = first.at(rule);
            int to = last.at(rule);
            return from <= to ? from <= hour && hour <= to : from <= hour || hour <= to;
        }
    }

    private static final class Grants {
        private int count;
        private final Row from = new Row(MOST_GRANTS, 0);
        private final Row to = new Row(MOST_GRANTS, 0);
        private final Row action = new Row(MOST_GRANTS, 0);
        private final Row resource = new Row(MOST_GRANTS, 0);
        private final Row hands = new Row(MOST_GRANTS, 0);
        private final Row end = new Row(MOST_GRANTS, 0);

        int add(int giver, int taker, int itsAction, int itsResource, int itsHands, int itsEnd) {
            int grant = count;
            from.put(grant, giver);
            to.put(grant, taker);
            action.put(grant, itsAction);
            resource.put(grant, itsResource);
            hands.put(grant, itsHands);
            end.put(grant, itsEnd);
            count++;
            return grant;
        }
    }

    /** All that has been told, and nothing that follows from it. */
    private static final class Told {
        private final Users users = new Users();
        private final Roles roles = new Roles();
        private final Tree tree = new Tree();
        private final Rules rules = new Rules();
        private final Grants grants = new Grants();
        private int weighing;
        private int clock;

        int hour() {
            return clock / 60 % 24;
        }

        boolean isThere(int grant) {
            return clock < grants.end.at(grant);
        }

        /** Whether the grant, good or not, gives the user the action on the resource. */
        boolean isGiven(int grant, int user, int action, int resource) {
            return grants.to.at(grant) == user && grants.action.at(grant) == action
                    && tree.isBeneath(resource, grants.resource.at(grant));
        }
    }

    /** What follows from what has been told, or would follow with another weighing, fewer rules, more roles. */
    private static final class View {
        /** More than a role can be near by, so that steps up the tree outweigh steps along roles. */
        private static final int STEP_UP = 16;

        private final Told told;
        private final Row onAction = new Row(ACTIONS, 0);
        private final Row onResource = new Row(MOST_RESOURCES, 0);
        private final Row forUser = new Row(MOST_USERS, 0);
        private final Row weights = new Row(MOST_USERS * MOST_RULES, 0);
        private final Row houses = new Row(MOST_USERS * (GREATEST_WALL + 1), 0);
        private final Row opposed = new Row(MOST_RULES, 0);
        private int weighing;
        private int live;
        private int allowing;
        private int good;

        View(Told allTold) {
            told = allTold;
        }

        /** Takes in what is told now, but with this weighing and without the rules of the set. */
        void look(int itsWeighing, int leftOut) {
            weighing = itsWeighing;
            lookAtRules(leftOut);
            lookAtWalls();
            for (int user = 0; user < told.users.count; user++) {
                giveSet(user, told.users.sets.at(user));
            }
            weighGrants();
        }

        private void lookAtRules(int leftOut) {
            onAction.clear();
            onResource.clear();
            live = 0;
            allowing = 0;
            int hour = told.hour();
            for (int rule = 0; rule < told.rules.count; rule++) {
                if (!isIn(leftOut, rule) && told.rules.holdsIn(rule, hour)) {
                    live |= 1 << rule;
                }
                if (told.rules.allows.at(rule) == 1) {
                    allowing |= 1 << rule;
                }
                lookWhere(rule);
            }
        }

        private void lookWhere(int rule) {
            int bit = 1 << rule;
            for (int action = 0; action < ACTIONS; action++) {
                if (isIn(told.rules.actions.at(rule), action)) {
                    onAction.put(action, onAction.at(action) | bit);
                }
            }
            int own = told.rules.resource.at(rule);
            boolean isDeep = told.rules.deep.at(rule) == 1;
            for (int resource = 0; resource < told.tree.count; resource++) {
                if (resource == own || isDeep && told.tree.isBeneath(resource, own)) {
                    onResource.put(resource, onResource.at(resource) | bit);
                }
            }
        }

        /** Gathers, for each user and class, the houses in which the user has done something. */
        private void lookAtWalls() {
            houses.clear();
            for (int user = 0; user < told.users.count; user++) {
                for (int resource = 0; resource < told.tree.count; resource++) {
                    int itsClass = told.tree.itsClass.at(resource);
                    if (itsClass != NO_WALL && told.users.doneOn(user, resource) != 0) {
                        int place = user * (GREATEST_WALL + 1) + itsClass;
                        houses.put(place, houses.at(place) | 1 << told.tree.house.at(resource));
                    }
                }
            }
        }

        /** From now on the user has this set of roles here; whoever changes it weighs the grants again. */
        void giveSet(int user, int set) {
            int traits = told.users.traits.at(user);
            int rules = 0;
            for (int rule = 0; rule < told.rules.count; rule++) {
                boolean canMatch = isIn(live, rule) && (told.rules.traits.at(rule) & ~traits) == 0;
                int steps = canMatch ? stepsTo(rule, user, set) : -1;
                if (steps >= 0) {
                    rules |= 1 << rule;
                    weights.put(user * MOST_RULES + rule, weightOf(rule, steps));
                }
            }
            forUser.put(user, rules);
        }

        /** By how much that for which the rule is is near to the user: itself by 0; -1 if the rule is not for it. */
        private int stepsTo(int rule, int user, int set) {
            int who = told.rules.forWhom.at(rule);
            if (who >= FIRST_ROLE) {
                return told.roles.nearBy(set, who - FIRST_ROLE);
            }
            return who == user ? 0 : -1;
        }

        /**
         * The rule of the smallest weight decides, and of equal ones the first. The least far of a resource's rules
         * is the one whose own resource is deepest, so that the weight is the same for all resources.
         */
        private int weightOf(int rule, int steps) {
            int weight = 0;
            if (weighing == BY_NEAREST) {
                weight = steps - STEP_UP * told.tree.depth.at(told.rules.resource.at(rule));
            } else if (weighing == BY_RANK) {
                weight = -told.rules.rank.at(rule);
            }
            boolean goesFirst = isIn(allowing, rule) == (weighing == BY_ALLOWS);
            return weight * 2 + (goesFirst ? 0 : 1);
        }

        /** A grant rests on rules and on grants of smaller numbers alone, so one pass in their order is enough. */
        void weighGrants() {
            good = 0;
            for (int grant = 0; grant < told.grants.count; grant++) {
                if (told.isThere(grant) && (isByRight(grant) || isPassedOn(grant))) {
                    good |= 1 << grant;
                }
            }
        }

        private boolean isByRight(int grant) {
            int from = told.grants.from.at(grant);
            int resource = told.grants.resource.at(grant);
            return ruled(from, told.grants.action.at(grant), resource) == ALLOWED
                    && ruled(from, SHARE, resource) == ALLOWED;
        }

        private boolean isPassedOn(int grant) {
            int from = told.grants.from.at(grant);
            int action = told.grants.action.at(grant);
            int resource = told.grants.resource.at(grant);
            for (int other = 0; other < grant; other++) {
                if (isIn(good, other) && told.isGiven(other, from, action, resource)
                        && told.grants.hands.at(other) > told.grants.hands.at(grant)) {
                    return true;
                }
            }
            return false;
        }

        int matching(int user, int action, int resource) {
            return forUser.at(user) & onAction.at(action) & onResource.at(resource);
        }

        /** The rule that decides among those that match for the user; -1 if there are none. */
        private int deciding(int user, int rules) {
            int best = -1;
            int least = 0;
            for (int rule = 0; rule < told.rules.count && rules != 0; rule++) {
                if (isIn(rules, rule)) {
                    int weight = weights.at(user * MOST_RULES + rule);
                    if (best < 0 || weight < least) {
                        best = rule;
                        least = weight;
                    }
                }
            }
            return best;
        }

        /** What is decided without grants. */
        int ruled(int user, int action, int resource) {
            if (isAgainstLabel(user, action, resource)) {
                return LABELLED;
            }
            if (isWalledOff(user, resource)) {
                return WALLED;
            }
            int rule = deciding(user, matching(user, action, resource));
            if (rule < 0) {
                return NOTHING;
            }
            return isIn(allowing, rule) ? ALLOWED : DENIED;
        }

        private boolean isAgainstLabel(int user, int action, int resource) {
            int label = told.tree.label.at(resource);
            int clearance = told.users.clearance.at(user);
            if (action == READ) {
                return label > clearance;
            }
            return action != SHARE && label < clearance;
        }

        private boolean isWalledOff(int user, int resource) {
            int itsClass = told.tree.itsClass.at(resource);
            if (itsClass == NO_WALL) {
                return false;
            }
            int entered = houses.at(user * (GREATEST_WALL + 1) + itsClass);
            return (entered & ~(1 << told.tree.house.at(resource))) != 0;
        }

        /** The first good grant of the action to the user that reaches the resource; -1 if there is none. */
        int grantFor(int user, int action, int resource) {
            for (int grant = 0; grant < told.grants.count; grant++) {
                if (isIn(good, grant) && told.isGiven(grant, user, action, resource)) {
                    return grant;
                }
            }
            return -1;
        }

        int decided(int user, int action, int resource) {
            int ruled = ruled(user, action, resource);
            return ruled == NOTHING && grantFor(user, action, resource) >= 0 ? GRANTED : ruled;
        }

        boolean isAllowed(int user, int action, int resource) {
            int decision = decided(user, action, resource);
            return decision == ALLOWED || decision == GRANTED;
        }

        int reason(int user, int action, int resource) {
            int ruled = ruled(user, action, resource);
            if (ruled == ALLOWED || ruled == DENIED) {
                return deciding(user, matching(user, action, resource));
            }
            return ruled == NOTHING ? grantFor(user, action, resource) : -1;
        }

        int allowedTo(int user, int action) {
            int allowed = 0;
            for (int resource = 0; resource < told.tree.count; resource++) {
                if (isAllowed(user, action, resource)) {
                    allowed++;
                }
            }
            return allowed;
        }

        int differences(View other) {
            int different = 0;
            for (int user = 0; user < told.users.count; user++) {
                for (int action = 0; action < ACTIONS; action++) {
                    for (int resource = 0; resource < told.tree.count; resource++) {
                        if (decided(user, action, resource) != other.decided(user, action, resource)) {
                            different++;
                        }
                    }
                }
            }
            return different;
        }

        /** How many pairs of rules, one that allows and one that denies, match the same somewhere. */
        int opposedPairs() {
            opposed.clear();
            for (int user = 0; user < told.users.count; user++) {
                for (int action = 0; action < ACTIONS; action++) {
                    for (int resource = 0; resource < told.tree.count; resource++) {
                        oppose(matching(user, action, resource));
                    }
                }
            }
            int pairs = 0;
            for (int rule = 0; rule < told.rules.count; rule++) {
                pairs += Integer.bitCount(opposed.at(rule));
            }
            return pairs;
        }

        private void oppose(int matching) {
            int denying = matching & ~allowing;
            for (int rule = 0; rule < told.rules.count && denying != 0; rule++) {
                if (isIn(matching & allowing, rule)) {
                    opposed.put(rule, opposed.at(rule) | denying);
                }
            }
        }
    }
}
