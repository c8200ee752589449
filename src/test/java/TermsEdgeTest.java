import java.util.Arrays;

/** The boundary cases that the document's first sections name, one test to a sentence. */
public final class TermsEdgeTest {
    public static void main(String[] args) {
        Due.sentence("An object is used for at most 512 calls", TermsEdgeTest::lastCallIsAnswered);
        Due.sentence("An object is used for at most 512 calls (rules made and dropped)", TermsEdgeTest::noRoomIsLost);
        Due.sentence("THINGS are numbered 0 .. 5", TermsEdgeTest::everyPairIsAFactOfItsOwn);
        Due.sentence("There are eight RELATIONS, 0 .. 7", TermsEdgeTest::everyRelationIsItsOwn);
        Due.sentence("Relation r has the LAYER r / 2", TermsEdgeTest::twoRelationsToALayer);
        Due.sentence("There are four VARIABLES, 0 .. 3", TermsEdgeTest::everyVariableIsItsOwn);
        Due.sentence("a term is 0 .. 3 for a variable, or 4 + x for the thing x (4 .. 9), in a head",
                TermsEdgeTest::termsOfAHead);
        Due.sentence("a term is 0 .. 3 for a variable, or 4 + x for the thing x (4 .. 9), in a body",
                TermsEdgeTest::thingsOfABody);
        Due.sentence("a BODY of 0 to 3 atoms (0)", TermsEdgeTest::emptyBody);
        Due.sentence("a BODY of 0 to 3 atoms, each plain or NEGATED", TermsEdgeTest::threeAtomsEachPlainOrNegated);
        Due.sentence("a plain body atom has a layer of at most the head's layer", TermsEdgeTest::plainLayers);
        Due.sentence("that of a negated one a layer that is less than the head's (not just by one)",
                TermsEdgeTest::negatedLayers);
        Due.sentence("Every variable of the head occurs in a plain atom of the body", TermsEdgeTest::headVariables);
        Due.sentence("Every variable of negated atoms occurs in a plain atom of the body",
                TermsEdgeTest::negatedVariables);
        Due.sentence("There is a list of at most 14 rules", TermsEdgeTest::allFourteenRulesAct);
        Due.sentence("WHAT HOLDS is given layer by layer", TermsEdgeTest::layersInAnyOrderOfTheList);
        Due.sentence("the smallest sets", TermsEdgeTest::circlesFoundNothing);
        Due.sentence("the smallest sets (the longest way to them)", TermsEdgeTest::allFactsOfALayerOneByOne);
        Due.sentence("all given facts hold", TermsEdgeTest::givenFactsHoldInEveryLayer);
        Due.sentence("every way to give its variables things", TermsEdgeTest::variablesMayShareAThing);
        Due.end();
    }

    private static void due(String what, int got, int want) {
        Due.due(what, got, want);
    }

    private static void lastCallIsAnswered() {
        StratifiedRules s = Build.reach(8 + 4);
        int callsOfReach = 8;
        for (int call = callsOfReach + 1; call < 512; call++) {
            boolean taken = call % 2 == 0;
            due("call " + call, s.give(0, 4, 5, taken ? 0 : 1), taken ? 1 : 0);
        }
        due("call 512", s.size(1), 15);
    }

    private static void noRoomIsLost() {
        StratifiedRules s = new StratifiedRules();
        for (int i = 0; i < 170; i++) {
            due("body", s.body(44, 1), 1);
            due("rule", s.rule(299), 0);
            due("drop", s.drop(0), 0);
        }
        due("call 511", s.rule(799), 0);
        due("call 512", s.holds(7, 5, 5), 1);
    }

    private static void everyPairIsAFactOfItsOwn() {
        for (int x = 0; x < 6; x++) {
            for (int y = 0; y < 6; y++) {
                StratifiedRules s = new StratifiedRules();
                due("give", s.give(3, x, y, 1), 0);
                due("it alone is given", s.size(3), 1);
                due("its number", s.next(3, -1), 6 * x + y);
            }
        }
    }

    private static void everyRelationIsItsOwn() {
        for (int relation = 0; relation < 8; relation++) {
            StratifiedRules s = new StratifiedRules();
            due("give " + relation, s.give(relation, 2, 3, 1), 0);
            for (int other = 0; other < 8; other++) {
                due("given to " + relation + ", size of " + other, s.size(other), other == relation ? 1 : 0);
            }
        }
    }

    private static void twoRelationsToALayer() {
        for (int even = 0; even < 8; even += 2) {
            StratifiedRules s = new StratifiedRules();
            due("the odd one is no higher", Build.make(s, 100 * even, 100 * even + 100), 0);
            due("the even one is no lower", Build.make(s, 100 * even + 144, Build.not(100 * even + 44)), -3);
            if (even > 0) {
                due("the odd one before is lower", Build.make(s, 100 * even + 44, Build.not(100 * even - 56)), 1);
                due("and this one higher", Build.make(s, 100 * even - 100, 100 * even), -3);
            }
        }
    }

    private static void everyVariableIsItsOwn() {
        for (int a = 0; a < 4; a++) {
            for (int b = 0; b < 4; b++) {
                StratifiedRules s = new StratifiedRules();
                s.give(0, 1, 2, 1);
                s.give(0, 3, 3, 1);
                due("rule", Build.make(s, 200 + 10 * a + b, 10 * a + b), 0);
                due("ways for " + a + " " + b, s.ways(0), a == b ? 1 : 2);
                due("(1, 2) for " + a + " " + b, s.holds(2, 1, 2), a == b ? 0 : 1);
                due("(3, 3) for " + a + " " + b, s.holds(2, 3, 3), 1);
            }
        }
    }

    private static void termsOfAHead() {
        for (int first = 0; first < 10; first++) {
            for (int second = 0; second < 10; second++) {
                StratifiedRules s = new StratifiedRules();
                boolean things = first > 3 && second > 3;
                due("head " + first + " " + second, s.rule(500 + 10 * first + second), things ? 0 : -4);
                due("its fact", s.next(5, -1), things ? 6 * (first - 4) + second - 4 : -2);
            }
        }
    }

    private static void thingsOfABody() {
        for (int x = 0; x < 6; x++) {
            for (int y = 0; y < 6; y++) {
                StratifiedRules s = new StratifiedRules();
                due("plain", Build.make(s, 244, 44 + 10 * x + y), 0);
                due("negated", Build.make(s, 255, Build.not(44 + 10 * x + y)), 1);
                due("not yet", s.next(2, -1), 7);
                s.give(0, x, y, 1);
                due("with (" + x + ", " + y + ")", s.next(2, -1), 0);
                due("and no longer without", s.size(2), 1);
            }
        }
    }

    private static void emptyBody() {
        StratifiedRules s = new StratifiedRules();
        due("rule", s.rule(48), 0);
        due("its head holds", s.holds(0, 0, 4), 1);
        due("in one way", s.ways(0), 1);
    }

    /** Bit i of plain: atom i is plain; bit i of facts: its fact is given. */
    private static void threeAtomsEachPlainOrNegated() {
        for (int plain = 0; plain < 8; plain++) {
            for (int facts = 0; facts < 8; facts++) {
                StratifiedRules s = new StratifiedRules();
                for (int i = 0; i < 3; i++) {
                    s.give(0, i, i, facts >> i & 1);
                    due("body", s.body(44 + 11 * i, 1 - (plain >> i & 1)), i + 1);
                }
                due("rule", s.rule(299), 0);
                due("plain " + plain + " facts " + facts, s.holds(2, 5, 5), plain == facts ? 1 : 0);
            }
        }
    }

    private static void plainLayers() {
        for (int head = 0; head < 8; head++) {
            for (int atom = 0; atom < 8; atom++) {
                StratifiedRules s = new StratifiedRules();
                due(head + " from " + atom, Build.make(s, 100 * head + 1, 100 * atom + 1),
                        atom / 2 <= head / 2 ? 0 : -3);
            }
        }
    }

    private static void negatedLayers() {
        for (int head = 0; head < 8; head++) {
            for (int atom = 0; atom < 8; atom++) {
                StratifiedRules s = new StratifiedRules();
                boolean fits = atom / 2 < head / 2;
                due(head + " from not " + atom, Build.make(s, 100 * head + 44, Build.not(100 * atom + 44)),
                        fits ? 0 : -3);
                due("its head", s.holds(head, 0, 0), fits ? 1 : 0);
            }
        }
    }

    private static void headVariables() {
        for (int v = 0; v < 4; v++) {
            int other = (v + 1) % 4;
            int[] heads = {244 + 10 * (v - 4), 244 + v - 4, 200 + 11 * v, 200 + 10 * v + other, 200 + 10 * other + v};
            for (int head : heads) {
                due(head + " from nothing", Build.make(new StratifiedRules(), head), -4);
                due(head + " from the other", Build.make(new StratifiedRules(), head, 11 * other), -4);
                due(head + " from a negated one", Build.make(new StratifiedRules(), head,
                        11 * other, Build.not(11 * v)), -4);
                due(head + " from a first term", Build.make(new StratifiedRules(), head, 10 * v + other), 0);
                due(head + " from a second term", Build.make(new StratifiedRules(), head, 10 * other + v), 0);
                due(head + " from the third atom", Build.make(new StratifiedRules(), head,
                        44, 11 * other, 4 + 10 * v), 0);
            }
        }
    }

    private static void negatedVariables() {
        for (int v = 0; v < 4; v++) {
            int other = (v + 1) % 4;
            int[] atoms = {4 + 10 * v, 40 + v, 11 * v, 10 * v + other, 10 * other + v};
            for (int atom : atoms) {
                int negated = Build.not(atom);
                due("not " + atom + " alone", Build.make(new StratifiedRules(), 244, negated), -4);
                due("not " + atom + " with the other", Build.make(new StratifiedRules(), 244, 11 * other, negated), -4);
                due("not " + atom + " twice", Build.make(new StratifiedRules(), 244,
                        11 * other, negated, negated), -4);
                due("not " + atom + " behind", Build.make(new StratifiedRules(), 244, 10 * v + other, negated), 0);
                due("not " + atom + " before", Build.make(new StratifiedRules(), 244, negated, 10 * other + v), 0);
            }
        }
    }

    private static void allFourteenRulesAct() {
        StratifiedRules s = Build.ruleList(14);
        due("rules", s.rules(), 14);
        due("facts", s.size(7), 14);
        due("the last one's", s.holds(7, 2, 1), 1);
        due("one more", s.rule(799), -2);
        due("its fact", s.holds(7, 5, 5), 0);
    }

    /** 2 is 0 without 1; 4 is 0 without 2; 6 is 0 without 4: each waits for the layer below. */
    private static void layersInAnyOrderOfTheList() {
        int[][] orders = {{0, 1, 2, 3}, {3, 2, 1, 0}, {2, 0, 3, 1}, {1, 3, 0, 2}};
        for (int[] order : orders) {
            StratifiedRules s = new StratifiedRules();
            s.chain(0, 0, 6);
            for (int layer : order) {
                if (layer == 0) {
                    Build.make(s, 166, 66);
                } else {
                    Build.make(s, 200 * layer + 1, 1, Build.not(layer == 1 ? 101 : 200 * layer - 199));
                }
            }
            due("layer 0", s.size(1), 1);
            due("layer 1", s.size(2), 5);
            due("layer 2", s.size(4), 1);
            due("layer 2 has (2, 2)", s.holds(4, 2, 2), 1);
            due("layer 3", s.size(6), 5);
            due("layer 3 lacks (2, 2)", s.holds(6, 2, 2), 0);
        }
    }

    private static void circlesFoundNothing() {
        StratifiedRules s = new StratifiedRules();
        Build.make(s, 1, 1);
        Build.make(s, 1, 101);
        Build.make(s, 110, 1);
        due("nothing", s.size(0) + s.size(1), 0);
        s.give(1, 2, 5, 1);
        due("what is given goes around", s.size(0) + s.size(1), 4);
        s.give(1, 2, 5, 0);
        due("and goes when it is taken back", s.size(0) + s.size(1), 0);
    }

    /** The rules, in either order, count through the 36 facts of relation 3, then those of 2, one from another. */
    private static void allFactsOfALayerOneByOne() {
        int[][] rules = {{244, 399}, {204, 219, 10}, {202, 201, 12}, {304, 319, 10}, {302, 301, 12}};
        for (int order = 0; order < 2; order++) {
            StratifiedRules s = new StratifiedRules();
            s.chain(0, 0, 8 + 5);
            for (int i = 0; i < rules.length; i++) {
                int[] rule = rules[order == 0 ? i : rules.length - 1 - i];
                Build.make(s, rule[0], Arrays.copyOfRange(rule, 1, rule.length));
            }
            due("nothing to begin with", s.size(2) + s.size(3), 0);
            s.give(3, 0, 0, 1);
            due("all of the layer", s.size(2) + s.size(3), 72);
            s.give(0, 4, 5, 0);
            due("up to a gap", s.size(2) + s.size(3), 5);
        }
    }

    private static void givenFactsHoldInEveryLayer() {
        StratifiedRules s = new StratifiedRules();
        for (int relation = 0; relation < 8; relation++) {
            due("body", s.body(99, 0), 1);
            due("a rule that derives nothing", s.rule(100 * relation + 44), relation);
            s.give(relation, relation % 6, 3, 1);
        }
        for (int relation = 0; relation < 8; relation++) {
            due("relation " + relation, s.holds(relation, relation % 6, 3), 1);
            due("and nothing else", s.size(relation), 1);
        }
    }

    private static void variablesMayShareAThing() {
        StratifiedRules s = new StratifiedRules();
        s.give(0, 3, 3, 1);
        Build.make(s, 203, 1, 23);
        due("all four the same", s.ways(0), 1);
        due("its head", s.next(2, -1), 21);
        s.give(0, 5, 0, 1);
        due("two pairs for two atoms", s.ways(0), 4);
        due("their heads", s.size(2), 4);
    }
}
