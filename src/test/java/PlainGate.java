import java.util.ArrayList;
import java.util.Collections;
import java.util.Comparator;
import java.util.List;
import java.util.Set;
import java.util.TreeMap;
import java.util.TreeSet;

/**
 * The document told once more, word by word and without regard to speed: what would be is asked of a copy that is
 * really changed. FuzzTest holds PolicyGate against it.
 */
final class PlainGate {
    private static final class User {
        int clearance;
        int traits;
        TreeSet<Integer> set = new TreeSet<>();
        TreeMap<Integer, TreeSet<Integer>> done = new TreeMap<>();
    }

    private static final class Resource {
        int parent = -1;
        int label;
        int itsClass = -1;
        int house;
    }

    private static final class Rule {
        boolean allows;
        int who;
        int actions;
        int resource;
        boolean isDeep;
        int rank;
        int traits;
        int first;
        int last = 23;
    }

    private static final class Grant {
        int from;
        int to;
        int action;
        int resource;
        int hands;
        int end;
    }

    private final List<User> users = new ArrayList<>();
    private final List<Set<Integer>> held = new ArrayList<>();
    private final Set<Set<Integer>> apart = new java.util.HashSet<>();
    private final List<Resource> resources = new ArrayList<>();
    private final List<Rule> rules = new ArrayList<>();
    private final List<Grant> grants = new ArrayList<>();
    private final int[] counted = new int[6];
    private int weighing;
    private int clock;

    PlainGate() {
        resources.add(new Resource());
    }

    private PlainGate copy() {
        PlainGate c = new PlainGate();
        c.resources.clear();
        for (User u : users) {
            User v = new User();
            v.clearance = u.clearance;
            v.traits = u.traits;
            v.set.addAll(u.set);
            u.done.forEach((r, actions) -> v.done.put(r, new TreeSet<>(actions)));
            c.users.add(v);
        }
        held.forEach(h -> c.held.add(new TreeSet<>(h)));
        c.apart.addAll(apart);
        for (Resource r : resources) {
            Resource s = new Resource();
            s.parent = r.parent;
            s.label = r.label;
            s.itsClass = r.itsClass;
            s.house = r.house;
            c.resources.add(s);
        }
        c.rules.addAll(rules);
        c.grants.addAll(grants);
        System.arraycopy(counted, 0, c.counted, 0, 6);
        c.weighing = weighing;
        c.clock = clock;
        return c;
    }

    private static void there(boolean is) {
        if (!is) {
            throw new IndexOutOfBoundsException();
        }
    }

    private static void right(boolean is) {
        if (!is) {
            throw new IllegalArgumentException();
        }
    }

    private static void free(boolean is) {
        if (!is) {
            throw new IllegalStateException();
        }
    }

    private static boolean from0to(int n, int last) {
        return 0 <= n && n <= last;
    }

    private static boolean of(int n, List<?> list) {
        return 0 <= n && n < list.size();
    }

    private static boolean inSet(int n, int set) {
        return (set / (1L << n)) % 2 == 1;
    }

    // ---- who and what

    public int addUser(int clearance, int traits) {
        right(from0to(clearance, 3) && from0to(traits, 255));
        free(users.size() < 12);
        User u = new User();
        u.clearance = clearance;
        u.traits = traits;
        users.add(u);
        return users.size() - 1;
    }

    public int addRole() {
        free(held.size() < 12);
        held.add(new TreeSet<>());
        return held.size() - 1;
    }

    public int addResource(int parent) {
        there(of(parent, resources));
        free(resources.size() < 24);
        Resource r = new Resource();
        r.parent = parent;
        resources.add(r);
        return resources.size() - 1;
    }

    /** What a copy would be after the change says whether it may be made. */
    private boolean hasSplitUser() {
        for (int u = 0; u < users.size(); u++) {
            for (Set<Integer> pair : apart) {
                boolean both = true;
                for (int role : pair) {
                    both &= near(u, role) > 0;
                }
                if (both) {
                    return true;
                }
            }
        }
        return false;
    }

    public boolean setRole(int user, int role, boolean has) {
        there(of(user, users) && of(role, held));
        PlainGate then = copy();
        if (has) {
            then.users.get(user).set.add(role);
        } else {
            then.users.get(user).set.remove(role);
        }
        free(!then.hasSplitUser());
        boolean before = users.get(user).set.contains(role);
        users.get(user).set = then.users.get(user).set;
        return before;
    }

    private boolean leadsTo(int role, int other) {
        for (int h : held.get(role)) {
            if (h == other || leadsTo(h, other)) {
                return true;
            }
        }
        return false;
    }

    public boolean setHolds(int role, int other, boolean holds) {
        there(of(role, held) && of(other, held));
        right(role != other);
        right(!holds || !leadsTo(other, role));
        PlainGate then = copy();
        if (holds) {
            then.held.get(role).add(other);
        } else {
            then.held.get(role).remove(other);
        }
        free(!then.hasSplitUser());
        boolean before = held.get(role).contains(other);
        held.set(role, then.held.get(role));
        return before;
    }

    public int setApart(int role, int other) {
        there(of(role, held) && of(other, held));
        right(role != other);
        Set<Integer> pair = Set.of(role, other);
        free(!apart.contains(pair) && apart.size() < 10);
        PlainGate then = copy();
        then.apart.add(pair);
        free(!then.hasSplitUser());
        apart.add(pair);
        return apart.size();
    }

    public int setUser(int user, int clearance, int traits) {
        there(of(user, users));
        right(from0to(clearance, 3) && from0to(traits, 255));
        User u = users.get(user);
        int before = u.traits;
        u.clearance = clearance;
        u.traits = traits;
        return before;
    }

    public int setLabel(int resource, int label) {
        there(of(resource, resources));
        right(from0to(label, 3));
        int before = resources.get(resource).label;
        resources.get(resource).label = label;
        return before;
    }

    public boolean setWall(int resource, int itsClass, int house) {
        there(of(resource, resources));
        right(-1 <= itsClass && itsClass <= 3);
        right(itsClass == -1 || from0to(house, 3));
        Resource r = resources.get(resource);
        boolean had = r.itsClass >= 0;
        r.itsClass = itsClass;
        r.house = house;
        return had;
    }

    public int users() {
        return users.size();
    }

    public int roles() {
        return held.size();
    }

    public int resources() {
        return resources.size();
    }

    public int near(int user, int role) {
        there(of(user, users) && of(role, held));
        if (users.get(user).set.contains(role)) {
            return 1;
        }
        int least = -1;
        for (int holder = 0; holder < held.size(); holder++) {
            if (held.get(holder).contains(role)) {
                int n = near(user, holder);
                if (n > 0 && (least < 0 || n + 1 < least)) {
                    least = n + 1;
                }
            }
        }
        return least;
    }

    public int far(int resource, int above) {
        there(of(resource, resources) && of(above, resources));
        if (resource == above) {
            return 0;
        }
        int parent = resources.get(resource).parent;
        int n = parent < 0 ? -1 : far(parent, above);
        return n < 0 ? -1 : n + 1;
    }

    // ---- rules

    public int addRule(boolean allows, int who, int actions, int resource) {
        there(0 <= who && who < 24 && (who < 12 ? who < users.size() : who - 12 < held.size()));
        there(of(resource, resources));
        right(1 <= actions && actions <= 31);
        free(rules.size() < 30);
        Rule r = new Rule();
        r.allows = allows;
        r.who = who;
        r.actions = actions;
        r.resource = resource;
        rules.add(r);
        return rules.size() - 1;
    }

    public int setRule(int rule, boolean isDeep, int rank) {
        there(of(rule, rules));
        right(from0to(rank, 9));
        int before = rules.get(rule).rank;
        rules.get(rule).isDeep = isDeep;
        rules.get(rule).rank = rank;
        return before;
    }

    public int setTerms(int rule, int traits, int first, int last) {
        there(of(rule, rules));
        right(from0to(traits, 255) && from0to(first, 23) && from0to(last, 23));
        Rule r = rules.get(rule);
        int before = r.traits;
        r.traits = traits;
        r.first = first;
        r.last = last;
        return before;
    }

    public int dropRule(int rule) {
        there(of(rule, rules));
        rules.remove(rule);
        return rules.size();
    }

    public int rules() {
        return rules.size();
    }

    public int setWeighing(int way) {
        right(from0to(way, 3));
        int before = weighing;
        weighing = way;
        return before;
    }

    private int hour() {
        return (clock / 60) % 24;
    }

    private boolean matches(Rule r, int user, int action, int resource) {
        boolean isFor = r.who < 12 ? r.who == user : near(user, r.who - 12) > 0;
        boolean where = r.resource == resource || r.isDeep && far(resource, r.resource) >= 0;
        boolean traits = true;
        for (int t = 0; t < 8; t++) {
            traits &= !inSet(t, r.traits) || inSet(t, users.get(user).traits);
        }
        boolean when = false;
        for (int h = r.first; ; h = (h + 1) % 24) {
            when |= h == hour();
            if (h == r.last) {
                break;
            }
        }
        return isFor && inSet(action, r.actions) && where && traits && when;
    }

    private void asked(int user, int action, int resource) {
        there(of(user, users) && from0to(action, 4) && of(resource, resources));
    }

    public boolean matches(int rule, int user, int action, int resource) {
        there(of(rule, rules));
        asked(user, action, resource);
        return matches(rules.get(rule), user, action, resource);
    }

    public int goOn(int minutes) {
        right(1 <= minutes && minutes <= 10000);
        clock += minutes;
        return hour();
    }

    public int clock() {
        return clock;
    }

    // ---- grants

    public int grant(int from, int to, int action, int resource, int hands, int minutes) {
        there(of(from, users) && of(to, users) && from0to(action, 4) && of(resource, resources));
        right(from != to && from0to(hands, 3) && 1 <= minutes && minutes <= 10000);
        free(grants.size() < 30);
        Grant g = new Grant();
        g.from = from;
        g.to = to;
        g.action = action;
        g.resource = resource;
        g.hands = hands;
        g.end = clock + minutes;
        grants.add(g);
        return grants.size() - 1;
    }

    public boolean revoke(int grant) {
        there(of(grant, grants));
        boolean was = clock < grants.get(grant).end;
        if (was) {
            grants.get(grant).end = clock;
        }
        return was;
    }

    public int grants() {
        return grants.size();
    }

    public boolean isGood(int grant) {
        there(of(grant, grants));
        Grant g = grants.get(grant);
        if (clock >= g.end) {
            return false;
        }
        if (withoutGrants(g.from, g.action, g.resource) == 1 && withoutGrants(g.from, 4, g.resource) == 1) {
            return true;
        }
        for (int k = 0; k < grant; k++) {
            Grant h = grants.get(k);
            if (h.to == g.from && h.action == g.action && far(g.resource, h.resource) >= 0 && h.hands > g.hands
                    && isGood(k)) {
                return true;
            }
        }
        return false;
    }

    // ---- decisions

    private List<Rule> leastBy(List<Rule> all, Comparator<Rule> order) {
        List<Rule> least = new ArrayList<>();
        if (!all.isEmpty()) {
            Rule one = Collections.min(all, order);
            all.stream().filter(r -> order.compare(r, one) == 0).forEach(least::add);
        }
        return least;
    }

    private Rule firstOf(List<Rule> all, boolean allowing) {
        for (Rule r : all) {
            if (r.allows == allowing) {
                return r;
            }
        }
        return all.isEmpty() ? null : all.get(0);
    }

    private Rule deciding(int user, int action, int resource) {
        List<Rule> all = new ArrayList<>();
        for (Rule r : rules) {
            if (matches(r, user, action, resource)) {
                all.add(r);
            }
        }
        if (weighing == 1) {
            return firstOf(all, true);
        }
        if (weighing == 2) {
            List<Rule> nearest = leastBy(all, Comparator.comparingInt(r -> far(resource, r.resource)));
            List<Rule> own = nearest.stream().filter(r -> r.who < 12).toList();
            return firstOf(own.isEmpty() ? leastBy(nearest, Comparator.comparingInt(r -> near(user, r.who - 12))) : own,
                    false);
        }
        if (weighing == 3) {
            return firstOf(leastBy(all, Comparator.comparingInt(r -> -r.rank)), false);
        }
        return firstOf(all, false);
    }

    private int withoutGrants(int user, int action, int resource) {
        Resource it = resources.get(resource);
        int clearance = users.get(user).clearance;
        if (action == 0 && it.label > clearance || action >= 1 && action <= 3 && it.label < clearance) {
            return 4;
        }
        if (it.itsClass >= 0) {
            for (int r : users.get(user).done.keySet()) {
                if (resources.get(r).itsClass == it.itsClass && resources.get(r).house != it.house) {
                    return 5;
                }
            }
        }
        Rule r = deciding(user, action, resource);
        return r == null ? 0 : r.allows ? 1 : 2;
    }

    private int grantTo(int user, int action, int resource) {
        for (int k = 0; k < grants.size(); k++) {
            Grant g = grants.get(k);
            if (g.to == user && g.action == action && far(resource, g.resource) >= 0 && isGood(k)) {
                return k;
            }
        }
        return -1;
    }

    public int decide(int user, int action, int resource) {
        asked(user, action, resource);
        int d = withoutGrants(user, action, resource);
        return d == 0 && grantTo(user, action, resource) >= 0 ? 3 : d;
    }

    private boolean allowed(int user, int action, int resource) {
        return decide(user, action, resource) % 2 == 1 && decide(user, action, resource) < 5;
    }

    public int why(int user, int action, int resource) {
        int d = decide(user, action, resource);
        if (d == 1 || d == 2) {
            return rules.indexOf(deciding(user, action, resource));
        }
        return d == 3 ? grantTo(user, action, resource) : -1;
    }

    public int access(int user, int action, int resource) {
        int d = decide(user, action, resource);
        if (allowed(user, action, resource)) {
            users.get(user).done.computeIfAbsent(resource, r -> new TreeSet<>()).add(action);
        }
        counted[d]++;
        return d;
    }

    public int counted(int decision) {
        right(from0to(decision, 5));
        return counted[decision];
    }

    public int done(int user, int resource) {
        there(of(user, users) && of(resource, resources));
        int set = 0;
        for (int action : users.get(user).done.getOrDefault(resource, new TreeSet<>())) {
            set += 1 << action;
        }
        return set;
    }

    // ---- asking

    public int who(int action, int resource) {
        there(from0to(action, 4) && of(resource, resources));
        int set = 0;
        for (int u = 0; u < users.size(); u++) {
            set += allowed(u, action, resource) ? 1 << u : 0;
        }
        return set;
    }

    public int reach(int user, int action) {
        there(of(user, users) && from0to(action, 4));
        int n = 0;
        for (int r = 0; r < resources.size(); r++) {
            n += allowed(user, action, r) ? 1 : 0;
        }
        return n;
    }

    public int rolesNeeded(int user, int action, int resource) {
        asked(user, action, resource);
        if (allowed(user, action, resource)) {
            return 0;
        }
        List<Integer> missing = new ArrayList<>();
        for (int role = 0; role < held.size(); role++) {
            if (!users.get(user).set.contains(role)) {
                missing.add(role);
            }
        }
        PlainGate then = copy();
        int fewest = -1;
        for (int choice = 1; choice < 1 << missing.size(); choice++) {
            then.users.get(user).set.clear();
            then.users.get(user).set.addAll(users.get(user).set);
            for (int k = 0; k < missing.size(); k++) {
                if (inSet(k, choice)) {
                    then.users.get(user).set.add(missing.get(k));
                }
            }
            int more = then.users.get(user).set.size() - users.get(user).set.size();
            if ((fewest < 0 || more < fewest) && !then.hasSplitUser() && then.allowed(user, action, resource)) {
                fewest = more;
            }
        }
        return fewest;
    }

    public int contradictions() {
        int pairs = 0;
        for (Rule a : rules) {
            for (Rule d : rules) {
                if (a.allows && !d.allows && bothMatch(a, d)) {
                    pairs++;
                }
            }
        }
        return pairs;
    }

    private boolean bothMatch(Rule a, Rule d) {
        for (int u = 0; u < users.size(); u++) {
            for (int action = 0; action < 5; action++) {
                for (int r = 0; r < resources.size(); r++) {
                    if (matches(a, u, action, r) && matches(d, u, action, r)) {
                        return true;
                    }
                }
            }
        }
        return false;
    }

    private int differences(PlainGate then) {
        int n = 0;
        for (int u = 0; u < users.size(); u++) {
            for (int action = 0; action < 5; action++) {
                for (int r = 0; r < resources.size(); r++) {
                    n += decide(u, action, r) != then.decide(u, action, r) ? 1 : 0;
                }
            }
        }
        return n;
    }

    public boolean isIdle(int rule) {
        there(of(rule, rules));
        PlainGate then = copy();
        then.dropRule(rule);
        return differences(then) == 0;
    }

    public int wouldDiffer(int way) {
        right(from0to(way, 3));
        PlainGate then = copy();
        then.setWeighing(way);
        return differences(then);
    }

    public int wouldGain(int user, int role) {
        there(of(user, users) && of(role, held));
        PlainGate then = copy();
        then.users.get(user).set.add(role);
        int n = 0;
        for (int action = 0; action < 5; action++) {
            for (int r = 0; r < resources.size(); r++) {
                n += then.allowed(user, action, r) && !allowed(user, action, r) ? 1 : 0;
            }
        }
        return n;
    }

    public double openness() {
        if (users.isEmpty()) {
            return 0;
        }
        int n = 0;
        for (int u = 0; u < users.size(); u++) {
            for (int action = 0; action < 5; action++) {
                n += reach(u, action);
            }
        }
        return (double) n / (users.size() * 5 * resources.size());
    }

    public long digest() {
        List<Long> all = new ArrayList<>();
        for (int n : new int[] {users(), roles(), resources(), rules(), grants(), clock()}) {
            all.add((long) n);
        }
        for (int u = 0; u < users(); u++) {
            for (int role = 0; role < roles(); role++) {
                all.add((long) near(u, role));
            }
        }
        for (int r = 0; r < resources(); r++) {
            all.add((long) far(r, 0));
        }
        for (int g = 0; g < grants(); g++) {
            all.add(isGood(g) ? 1L : 0L);
        }
        List<Long> reasons = new ArrayList<>();
        for (int u = 0; u < users(); u++) {
            for (int action = 0; action < 5; action++) {
                for (int r = 0; r < resources(); r++) {
                    all.add((long) decide(u, action, r));
                    reasons.add((long) why(u, action, r));
                }
            }
        }
        all.addAll(reasons);
        for (int d = 0; d < 6; d++) {
            all.add((long) counted(d));
        }
        for (int u = 0; u < users(); u++) {
            for (int r = 0; r < resources(); r++) {
                all.add((long) done(u, r));
            }
        }
        all.add((long) contradictions());
        long d = 2579;
        for (long v : all) {
            d = d * 31 + v;
        }
        return d;
    }
}
