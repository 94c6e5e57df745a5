/** Gates to begin a test with. */
final class Gates {
    private Gates() {
    }

    /** A gate with users of clearance 0, roles, and a chain of resources 0, 1, 2, .. */
    static PolicyGate gate(int users, int roles, int resources) {
        PolicyGate x = new PolicyGate();
        for (int k = 0; k < users; k++) {
            x.addUser(0, 0);
        }
        for (int k = 0; k < roles; k++) {
            x.addRole();
        }
        for (int k = 1; k < resources; k++) {
            x.addResource(k - 1);
        }
        return x;
    }

    static int deepRule(PolicyGate x, boolean allows, int who, int actions, int resource) {
        int rule = x.addRule(allows, who, actions, resource);
        x.setRule(rule, true, 0);
        return rule;
    }
}
