/** "In every method the tests are made in the order named": calls with two faults, for every two of each method. */
public final class OrderEdgeTest {
    public static void main(String[] args) {
        Due.sentence("tests in the order named: give", OrderEdgeTest::give);
        Due.sentence("tests in the order named: chain", OrderEdgeTest::chain);
        Due.sentence("tests in the order named: body", OrderEdgeTest::body);
        Due.sentence("tests in the order named: rule, -1 first", OrderEdgeTest::ruleBadHeadFirst);
        Due.sentence("tests in the order named: rule, -2 before -3 and -4", OrderEdgeTest::ruleFullListNext);
        Due.sentence("tests in the order named: rule, -3 before -4", OrderEdgeTest::ruleLayerBeforeVariable);
        Due.sentence("tests in the order named: given and holds", OrderEdgeTest::givenAndHolds);
        Due.sentence("tests in the order named: next", OrderEdgeTest::next);
        Due.sentence("tests in the order named: fan", OrderEdgeTest::fan);
        Due.sentence("tests in the order named: supports", OrderEdgeTest::supports);
        Due.end();
    }

    private static void due(String what, int got, int want) {
        Due.due(what, got, want);
    }

    private static void give() {
        StratifiedRules s = new StratifiedRules();
        due("relation and x", s.give(8, 6, 0, 1), -1);
        due("relation and y", s.give(-1, 0, -1, 1), -1);
        due("all three", s.give(8, -1, 6, 0), -1);
    }

    private static void chain() {
        StratifiedRules s = new StratifiedRules();
        due("relation and x", s.chain(8, 6, 1), -1);
        due("relation and negative plan", s.chain(-1, 0, -1), -1);
        due("relation and step", s.chain(8, 0, 49), -1);
        due("relation and count", s.chain(8, 0, 7), -1);
        due("x and negative plan", s.chain(0, 6, -1), -2);
        due("x and step", s.chain(0, -1, 49), -2);
        due("x and count", s.chain(0, 6, 0), -2);
        due("negative plan and count", s.chain(0, 0, -8), -3);
        due("step and count 0", s.chain(0, 0, 48), -3);
        due("step and count 7", s.chain(0, 0, 55), -3);
        due("all", s.chain(-1, -1, 55), -1);
    }

    private static void body() {
        StratifiedRules s = new StratifiedRules();
        Build.draft(s, 1, 1, 1);
        due("800 and full draft", s.body(800, 0), -1);
        due("-1 and full draft", s.body(-1, 1), -1);
        due("full draft alone", s.body(1, 0), -2);
    }

    private static void ruleBadHeadFirst() {
        StratifiedRules full = Build.ruleList(14);
        due("head and full list", full.rule(800), -1);
        due("head below and full list", full.rule(-1), -1);
        StratifiedRules high = new StratifiedRules();
        Build.draft(high, 744);
        due("head and layer", high.rule(-1), -1);
        due("head and layer, the least", high.rule(Build.LEAST), -1);
        Build.draft(full, 744, Build.not(701));
        due("head and all the others", full.rule(-1), -1);
        due("head and variable", new StratifiedRules().rule(801), -1);
    }

    private static void ruleFullListNext() {
        StratifiedRules s = Build.ruleList(14);
        due("full list and variable", s.rule(700), -2);
        Build.draft(s, 744);
        due("full list and layer", s.rule(44), -2);
        due("full list, layer and variable", s.rule(0), -2);
        s.drop(0);
        due("layer and variable, with room", s.rule(0), -3);
        due("layer, with room", s.rule(44), -3);
        due("variable, with room", s.rule(700), -4);
    }

    private static void ruleLayerBeforeVariable() {
        StratifiedRules s = new StratifiedRules();
        due("plain layer, head's variable", Build.make(s, 0, 244), -3);
        due("plain layer, negated atom's variable", Build.make(s, 244, 444, Build.not(1)), -3);
        due("negated layer, its own variable", Build.make(s, 244, Build.not(200)), -3);
        due("negated layer, head's variable", Build.make(s, 203, Build.not(344)), -3);
        due("variable in an atom before the layer", Build.make(s, 244, Build.not(1), 744), -3);
        due("variable alone", Build.make(s, 244, Build.not(1), 144), -4);
    }

    private static void givenAndHolds() {
        StratifiedRules s = new StratifiedRules();
        due("given: relation and x", s.given(8, 6, 0), -1);
        due("given: relation and y", s.given(-1, 0, -1), -1);
        due("holds: relation and x", s.holds(8, 6, 0), -1);
        due("holds: relation and y", s.holds(-1, 0, -1), -1);
    }

    private static void next() {
        StratifiedRules s = new StratifiedRules();
        due("relation and none", s.next(8, 35), -1);
        due("relation below and none", s.next(-1, Build.GREATEST), -1);
    }

    private static void fan() {
        StratifiedRules s = new StratifiedRules();
        due("relation and x", s.fan(8, 6), -1);
        due("relation below and x", s.fan(-1, -1), -1);
    }

    private static void supports() {
        StratifiedRules s = new StratifiedRules();
        due("rule of none and fact", s.supports(0, 36), -1);
        s.rule(744);
        due("rule and fact", s.supports(1, -1), -1);
        due("rule below and fact", s.supports(-1, 36), -1);
        due("fact alone", s.supports(0, 36), -2);
    }
}
