/** Rules that derive facts about pairs, with negation in layers. */
public final class StratifiedRules {
    private static final int THINGS = 6;
    private static final int RELATIONS = 8;
    private static final int RELATIONS_IN_A_LAYER = 2;
    private static final int LAYERS = 4;
    private static final int FACTS = 36;
    private static final int VARIABLES = 4;
    private static final int TERMS = 10;
    private static final int ATOMS = 800;
    private static final int MOST_RULES = 14;
    private static final int MOST_ATOMS = 3;
    private static final int BODY_PLACES = 42;

    // Every round of a layer but the last adds a fact, so no layer needs more rounds.
    private static final int MOST_ROUNDS = RELATIONS_IN_A_LAYER * FACTS + 1;

    private static final int NO_RULE = -1;

    // A set of facts is a long: bit 6 * x + y stands for the pair (x, y).
    private final long[] givenFacts = new long[RELATIONS];

    // Brought up to date by every call that changes given facts or rules, so questions only read it.
    private final long[] heldFacts = new long[RELATIONS];
    private final long[] factsWithout = new long[RELATIONS];

    private final int[] draftAtom = new int[MOST_ATOMS];
    private final boolean[] draftNegated = new boolean[MOST_ATOMS];
    private int draftLength;

    // The body of rule r stands from place MOST_ATOMS * r on.
    private final int[] bodyAtom = new int[BODY_PLACES];
    private final boolean[] bodyNegated = new boolean[BODY_PLACES];
    private final int[] bodyLength = new int[MOST_RULES];
    private final int[] headAtom = new int[MOST_RULES];

    // Bit v is set if variable v occurs in the rule.
    private final int[] variablesOfRule = new int[MOST_RULES];
    private int ruleCount;

    // The terms 0 .. 3 change with the way that is looked at; 4 .. 9 name things and stay.
    private final int[] thingOfTerm = new int[TERMS];

    public StratifiedRules() {
        for (int term = VARIABLES; term < TERMS; term++) {
            thingOfTerm[term] = term - VARIABLES;
        }
    }

    public int give(int relation, int x, int y, int flag) {
        if (!isRelation(relation)) {
            return -1;
        }
        if (!isThing(x) || !isThing(y)) {
            return -2;
        }
        int fact = THINGS * x + y;
        int before = memberOf(givenFacts[relation], fact);
        if (flag != 0) {
            givenFacts[relation] |= 1L << fact;
        } else {
            givenFacts[relation] &= ~(1L << fact);
        }
        derive(heldFacts, NO_RULE);
        return before;
    }

    public int chain(int relation, int x, int plan) {
        int step = plan / 8;
        int count = plan % 8;
        if (!isRelation(relation)) {
            return -1;
        }
        if (!isThing(x)) {
            return -2;
        }
        if (plan < 0 || step > 5) {
            return -3;
        }
        if (count < 1 || count > 6) {
            return -4;
        }
        for (int i = 0; i < count; i++) {
            int from = (x + i) % THINGS;
            int to = (x + i + step) % THINGS;
            givenFacts[relation] |= 1L << (THINGS * from + to);
        }
        derive(heldFacts, NO_RULE);
        return countOf(givenFacts[relation]);
    }

    public int body(int atom, int negated) {
        if (!isAtom(atom)) {
            return -1;
        }
        if (draftLength >= MOST_ATOMS) {
            return -2;
        }
        draftAtom[draftLength] = atom;
        draftNegated[draftLength] = negated != 0;
        draftLength++;
        return draftLength;
    }

    public int rule(int head) {
        if (!isAtom(head)) {
            return -1;
        }
        if (ruleCount >= MOST_RULES) {
            return -2;
        }
        if (!draftLayersFit(head)) {
            return -3;
        }
        int bound = draftVariables(false);
        int needed = draftVariables(true) | variablesOf(head);
        if ((needed & ~bound) != 0) {
            return -4;
        }
        int number = ruleCount;
        headAtom[number] = head;
        variablesOfRule[number] = bound;
        moveDraftTo(number);
        ruleCount++;
        derive(heldFacts, NO_RULE);
        return number;
    }

    public int blank() {
        int before = draftLength;
        draftLength = 0;
        return before;
    }

    public int drop(int rule) {
        if (!isRule(rule)) {
            return -1;
        }
        ruleCount--;
        for (int number = rule; number < ruleCount; number++) {
            copyFromNext(number);
        }
        derive(heldFacts, NO_RULE);
        return ruleCount;
    }

    public int rules() {
        return ruleCount;
    }

    public int given(int relation, int x, int y) {
        return lookUp(givenFacts, relation, x, y);
    }

    public int holds(int relation, int x, int y) {
        return lookUp(heldFacts, relation, x, y);
    }

    public int size(int relation) {
        if (!isRelation(relation)) {
            return -1;
        }
        return countOf(heldFacts[relation]);
    }

    public int next(int relation, int after) {
        if (!isRelation(relation)) {
            return -1;
        }
        for (int fact = 0; fact < FACTS; fact++) {
            if (fact > after && memberOf(heldFacts[relation], fact) == 1) {
                return fact;
            }
        }
        return -2;
    }

    public int fan(int relation, int x) {
        if (!isRelation(relation)) {
            return -1;
        }
        if (!isThing(x)) {
            return -2;
        }
        int count = 0;
        for (int y = 0; y < THINGS; y++) {
            count += memberOf(heldFacts[relation], THINGS * x + y);
        }
        return count;
    }

    public int ways(int rule) {
        if (!isRule(rule)) {
            return -1;
        }
        int count = 0;
        int all = assignmentsOf(rule);
        for (int way = 0; way < all; way++) {
            assign(rule, way);
            if (bodyIsMet(heldFacts, rule)) {
                count++;
            }
        }
        return count;
    }

    public int supports(int rule, int fact) {
        if (!isRule(rule)) {
            return -1;
        }
        if (fact < 0 || fact >= FACTS) {
            return -2;
        }
        long heads = headsOf(heldFacts, rule);
        return memberOf(heads, fact);
    }

    public int weight(int rule) {
        if (!isRule(rule)) {
            return -1;
        }
        derive(factsWithout, rule);
        int count = 0;
        for (int relation = 0; relation < RELATIONS; relation++) {
            count += countOf(heldFacts[relation] ^ factsWithout[relation]);
        }
        return count;
    }

    public int within(int r, int s) {
        if (!isRelation(r) || !isRelation(s)) {
            return -1;
        }
        return (heldFacts[r] & ~heldFacts[s]) == 0 ? 1 : 0;
    }

    private static boolean isRelation(int relation) {
        return relation >= 0 && relation < RELATIONS;
    }

    private static boolean isThing(int thing) {
        return thing >= 0 && thing < THINGS;
    }

    private static boolean isAtom(int atom) {
        return atom >= 0 && atom < ATOMS;
    }

    private boolean isRule(int rule) {
        return rule >= 0 && rule < ruleCount;
    }

    private static int relationOf(int atom) {
        return atom / 100;
    }

    private static int layerOf(int atom) {
        return relationOf(atom) / RELATIONS_IN_A_LAYER;
    }

    private static int variablesOf(int atom) {
        int first = atom / 10 % 10;
        int second = atom % 10;
        int variables = 0;
        if (first < VARIABLES) {
            variables |= 1 << first;
        }
        if (second < VARIABLES) {
            variables |= 1 << second;
        }
        return variables;
    }

    private static int memberOf(long facts, int fact) {
        return (int) (facts >>> fact & 1L);
    }

    private static int countOf(long facts) {
        int count = 0;
        for (int fact = 0; fact < FACTS; fact++) {
            count += memberOf(facts, fact);
        }
        return count;
    }

    private static int lookUp(long[] facts, int relation, int x, int y) {
        if (!isRelation(relation)) {
            return -1;
        }
        if (!isThing(x) || !isThing(y)) {
            return -2;
        }
        return memberOf(facts[relation], THINGS * x + y);
    }

    private boolean draftLayersFit(int head) {
        int layer = layerOf(head);
        for (int i = 0; i < draftLength; i++) {
            int below = layerOf(draftAtom[i]);
            if (below > layer || draftNegated[i] && below == layer) {
                return false;
            }
        }
        return true;
    }

    private int draftVariables(boolean negated) {
        int variables = 0;
        for (int i = 0; i < draftLength; i++) {
            if (draftNegated[i] == negated) {
                variables |= variablesOf(draftAtom[i]);
            }
        }
        return variables;
    }

    private void moveDraftTo(int rule) {
        for (int i = 0; i < draftLength; i++) {
            bodyAtom[MOST_ATOMS * rule + i] = draftAtom[i];
            bodyNegated[MOST_ATOMS * rule + i] = draftNegated[i];
        }
        bodyLength[rule] = draftLength;
        draftLength = 0;
    }

    private void copyFromNext(int rule) {
        headAtom[rule] = headAtom[rule + 1];
        variablesOfRule[rule] = variablesOfRule[rule + 1];
        bodyLength[rule] = bodyLength[rule + 1];
        for (int i = 0; i < MOST_ATOMS; i++) {
            int place = MOST_ATOMS * rule + i;
            bodyAtom[place] = bodyAtom[place + MOST_ATOMS];
            bodyNegated[place] = bodyNegated[place + MOST_ATOMS];
        }
    }

    /** Fills facts with what holds if the rule leftOut is not there. */
    private void derive(long[] facts, int leftOut) {
        for (int relation = 0; relation < RELATIONS; relation++) {
            facts[relation] = givenFacts[relation];
        }
        for (int layer = 0; layer < LAYERS; layer++) {
            boolean grew = true;
            for (int round = 0; grew && round < MOST_ROUNDS; round++) {
                grew = growLayer(facts, layer, leftOut);
            }
        }
    }

    private boolean growLayer(long[] facts, int layer, int leftOut) {
        boolean grew = false;
        for (int rule = 0; rule < ruleCount; rule++) {
            if (rule != leftOut && layerOf(headAtom[rule]) == layer) {
                int relation = relationOf(headAtom[rule]);
                long heads = headsOf(facts, rule);
                if ((heads & ~facts[relation]) != 0) {
                    facts[relation] |= heads;
                    grew = true;
                }
            }
        }
        return grew;
    }

    private long headsOf(long[] facts, int rule) {
        long heads = 0;
        int all = assignmentsOf(rule);
        for (int way = 0; way < all; way++) {
            assign(rule, way);
            if (bodyIsMet(facts, rule)) {
                heads |= 1L << factOf(headAtom[rule]);
            }
        }
        return heads;
    }

    private int assignmentsOf(int rule) {
        int all = 1;
        for (int variable = 0; variable < VARIABLES; variable++) {
            if (occurs(rule, variable)) {
                all *= THINGS;
            }
        }
        return all;
    }

    /** Gives the rule's variables the digits of way to the base of THINGS. */
    private void assign(int rule, int way) {
        int rest = way;
        for (int variable = 0; variable < VARIABLES; variable++) {
            if (occurs(rule, variable)) {
                thingOfTerm[variable] = rest % THINGS;
                rest /= THINGS;
            }
        }
    }

    private boolean occurs(int rule, int variable) {
        return (variablesOfRule[rule] >> variable & 1) == 1;
    }

    private boolean bodyIsMet(long[] facts, int rule) {
        int start = MOST_ATOMS * rule;
        int end = start + bodyLength[rule];
        for (int place = start; place < end; place++) {
            int relation = relationOf(bodyAtom[place]);
            int fact = factOf(bodyAtom[place]);
            boolean holding = memberOf(facts[relation], fact) == 1;
            if (holding == bodyNegated[place]) {
                return false;
            }
        }
        return true;
    }

    private int factOf(int atom) {
        int first = atom / 10 % 10;
        int second = atom % 10;
        return THINGS * thingOfTerm[first] + thingOfTerm[second];
    }
}
