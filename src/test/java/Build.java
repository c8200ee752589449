/** What several tests start from: numbers that are out of range, rules in one call, and a common object. */
final class Build {
    static final int LEAST = Integer.MIN_VALUE;
    static final int GREATEST = Integer.MAX_VALUE;

    // Beside the nearest ones, those that a careless sum, shift or narrow type would take for good ones.
    static final int[] BAD_RELATIONS = {-1, 8, 9, -8, 64, 256, 65536, LEAST, GREATEST};
    static final int[] BAD_THINGS = {-1, 6, 7, -6, 64, 256, 65536, LEAST, GREATEST};
    static final int[] BAD_ATOMS = {-1, 800, 801, -100, 899, 1000, 65536, LEAST, GREATEST};
    static final int[] BAD_FACTS = {-1, 36, 37, 63, 64, 65, 256, 65536, LEAST, GREATEST};
    static final int[] FLAGS_NOT_0 = {1, -1, 2, 256, 65536, LEAST, GREATEST};

    private Build() {
    }

    /** Makes a rule with these body atoms. */
    static int make(StratifiedRules s, int head, int... atoms) {
        s.blank();
        draft(s, atoms);
        return s.rule(head);
    }

    static void draft(StratifiedRules s, int... atoms) {
        for (int atom : atoms) {
            if (atom < 0) {
                s.body(-1 - atom, 1);
            } else {
                s.body(atom, 0);
            }
        }
    }

    /** Stands for the atom, negated, where atoms are handed to make or draft. */
    static int not(int atom) {
        return -1 - atom;
    }

    static void giveAll(StratifiedRules s, int relation) {
        for (int step = 0; step < 6; step++) {
            s.chain(relation, 0, 8 * step + 6);
        }
    }

    /** Rule 0: 1 from 0; rule 1: 1 from 1 and 0, so that 1 is what 0 reaches. */
    static StratifiedRules reach(int plan) {
        StratifiedRules s = new StratifiedRules();
        s.chain(0, 0, plan);
        make(s, 101, 1);
        make(s, 101, 102, 21);
        return s;
    }

    /** Rule i has an empty body and the head 7(i / 6, i % 6), so that each rule is known by its fact. */
    static StratifiedRules ruleList(int length) {
        StratifiedRules s = new StratifiedRules();
        for (int i = 0; i < length; i++) {
            s.rule(744 + 10 * (i / 6) + i % 6);
        }
        return s;
    }
}
