import java.util.Arrays;

/** The boundary cases that promises 1 to 7 name, one test to a sentence. */
public final class ChangesEdgeTest {
    public static void main(String[] args) {
        Due.sentence("1: No given facts", ChangesEdgeTest::newObjectHasNoFacts);
        Due.sentence("1: no rules", ChangesEdgeTest::newObjectHasNoRules);
        Due.sentence("2: Gives a fact (flag not 0)", ChangesEdgeTest::giveWithAnyFlag);
        Due.sentence("2: or takes it back (flag 0)", ChangesEdgeTest::giveTakesBack);
        Due.sentence("2: -1 if relation is not good", ChangesEdgeTest::giveBadRelation);
        Due.sentence("2: -2 if x or y is not good", ChangesEdgeTest::giveBadThing);
        Due.sentence("2: otherwise 1 if it was given before, else 0", ChangesEdgeTest::giveTellsBefore);
        Due.sentence("3: Gives the facts (x, x + step), .. with both things modulo 6, count of them",
                ChangesEdgeTest::chainGoesAround);
        Due.sentence("3: -1 if relation is not good", ChangesEdgeTest::chainBadRelation);
        Due.sentence("3: -2 if x is not good", ChangesEdgeTest::chainBadThing);
        Due.sentence("3: -3 if plan is negative", ChangesEdgeTest::chainNegativePlan);
        Due.sentence("3: -3 if step is greater than 5", ChangesEdgeTest::chainStepTooLarge);
        Due.sentence("3: -4 if count is not in 1 .. 6", ChangesEdgeTest::chainBadCount);
        Due.sentence("3: otherwise answers how many facts of the relation are given now",
                ChangesEdgeTest::chainCountsGivenFacts);
        Due.sentence("4: the draft of a body (empty at first)", ChangesEdgeTest::draftIsEmptyAtFirst);
        Due.sentence("4: -1 if atom is not in 0 .. 799", ChangesEdgeTest::bodyBadAtom);
        Due.sentence("4: -2 if the draft has 3 atoms", ChangesEdgeTest::bodyFullDraft);
        Due.sentence("4: otherwise answers how many it has", ChangesEdgeTest::bodyCounts);
        Due.sentence("4: negated not 0 makes it negated", ChangesEdgeTest::bodyWithAnyFlag);
        Due.sentence("5: the draft becomes empty", ChangesEdgeTest::ruleEmptiesTheDraft);
        Due.sentence("5: -1 if head is not in 0 .. 799", ChangesEdgeTest::ruleBadHead);
        Due.sentence("5: -2 if there are 14 rules", ChangesEdgeTest::ruleFullList);
        Due.sentence("5: -3 if a layer does not fit", ChangesEdgeTest::ruleLayerInAnyPlace);
        Due.sentence("5: -4 if a variable of the head or of a negated atom occurs in no plain atom",
                ChangesEdgeTest::ruleLooseVariable);
        Due.sentence("5: otherwise answers its number", ChangesEdgeTest::ruleNumbers);
        Due.sentence("5: After a refusal the draft stays", ChangesEdgeTest::ruleRefusedKeepsTheDraft);
        Due.sentence("6: The draft becomes empty", ChangesEdgeTest::blankEmptiesTheDraft);
        Due.sentence("6: answers how many atoms it had", ChangesEdgeTest::blankCounts);
        Due.sentence("7: Takes a rule out; later ones get numbers less by one", ChangesEdgeTest::dropAtEveryPlace);
        Due.sentence("7: later ones get numbers less by one, whatever they are",
                ChangesEdgeTest::dropMovesWholeRules);
        Due.sentence("7: -1 if there is no such rule", ChangesEdgeTest::dropNoSuchRule);
        Due.sentence("7: otherwise answers how many are left", ChangesEdgeTest::dropCounts);
        Due.end();
    }

    private static void due(String what, int got, int want) {
        Due.due(what, got, want);
    }

    private static void newObjectHasNoFacts() {
        StratifiedRules s = new StratifiedRules();
        for (int relation = 0; relation < 8; relation++) {
            for (int fact = 0; fact < 36; fact++) {
                due("given " + relation + " " + fact, s.given(relation, fact / 6, fact % 6), 0);
            }
            due("size " + relation, s.size(relation), 0);
        }
    }

    private static void newObjectHasNoRules() {
        StratifiedRules s = new StratifiedRules();
        due("rules", s.rules(), 0);
        due("ways", s.ways(0), -1);
        due("drop", s.drop(0), -1);
    }

    private static void giveWithAnyFlag() {
        for (int flag : Build.FLAGS_NOT_0) {
            StratifiedRules s = new StratifiedRules();
            due("flag " + flag, s.give(0, 5, 0, flag), 0);
            due("then given", s.given(0, 5, 0), 1);
            due("flag " + flag + " again", s.give(0, 5, 0, flag), 1);
            due("still given", s.given(0, 5, 0), 1);
        }
    }

    private static void giveTakesBack() {
        StratifiedRules s = new StratifiedRules();
        Build.giveAll(s, 0);
        Build.make(s, 101, 1);
        for (int fact = 0; fact < 36; fact++) {
            due("take back " + fact, s.give(0, fact / 6, fact % 6, 0), 1);
            due("not given", s.given(0, fact / 6, fact % 6), 0);
            due("the rest holds", s.size(0), 35 - fact);
            due("and what follows from it", s.size(1), 35 - fact);
        }
        due("none is left to take back", s.give(0, 5, 5, 0), 0);
    }

    private static void giveBadRelation() {
        StratifiedRules s = new StratifiedRules();
        for (int bad : Build.BAD_RELATIONS) {
            due("give " + bad, s.give(bad, 0, 0, 1), -1);
            due("take back " + bad, s.give(bad, 0, 0, 0), -1);
        }
        due("relation 0 is good", s.give(0, 0, 0, 1), 0);
        due("relation 7 is good", s.give(7, 0, 0, 1), 0);
    }

    private static void giveBadThing() {
        StratifiedRules s = new StratifiedRules();
        for (int bad : Build.BAD_THINGS) {
            for (int good = 0; good < 6; good++) {
                due("x " + bad, s.give(3, bad, good, 1), -2);
                due("y " + bad, s.give(3, good, bad, 1), -2);
            }
            due("x and y " + bad, s.give(3, bad, bad, 0), -2);
        }
        due("0 and 5 are good", s.give(3, 0, 5, 1), 0);
        due("5 and 0 are good", s.give(3, 5, 0, 1), 0);
    }

    private static void giveTellsBefore() {
        StratifiedRules s = new StratifiedRules();
        due("not given, taken back", s.give(1, 2, 3, 0), 0);
        due("not given, given", s.give(1, 2, 3, 1), 0);
        due("given, given", s.give(1, 2, 3, 1), 1);
        due("given, taken back", s.give(1, 2, 3, 0), 1);
        due("taken back, taken back", s.give(1, 2, 3, 0), 0);
        s.rule(167);
        due("derived alone, taken back", s.give(1, 2, 3, 0), 0);
        due("derived alone, given", s.give(1, 2, 3, 1), 0);
        due("derived and given, taken back", s.give(1, 2, 3, 0), 1);
        s.chain(1, 2, 8 + 1);
        due("given by chain", s.give(1, 2, 3, 1), 1);
    }

    private static void chainGoesAround() {
        for (int x = 0; x < 6; x++) {
            for (int plan = 1; plan < 48; plan++) {
                if (plan % 8 >= 1 && plan % 8 <= 6) {
                    chainGivesTheseAlone(x, plan);
                }
            }
        }
    }

    private static void chainGivesTheseAlone(int x, int plan) {
        StratifiedRules s = new StratifiedRules();
        due("x " + x + " plan " + plan, s.chain(6, x, plan), plan % 8);
        int from = x;
        int to = (x + plan / 8) % 6;
        for (int i = 0; i < plan % 8; i++) {
            due("x " + x + " plan " + plan + ": (" + from + ", " + to + ")", s.given(6, from, to), 1);
            from = from == 5 ? 0 : from + 1;
            to = to == 5 ? 0 : to + 1;
        }
        due("x " + x + " plan " + plan + ": no more", s.size(6), plan % 8);
    }

    private static void chainBadRelation() {
        StratifiedRules s = new StratifiedRules();
        for (int bad : Build.BAD_RELATIONS) {
            due("relation " + bad, s.chain(bad, 0, 1), -1);
        }
        due("relation 0 is good", s.chain(0, 0, 1), 1);
        due("relation 7 is good", s.chain(7, 0, 1), 1);
    }

    private static void chainBadThing() {
        StratifiedRules s = new StratifiedRules();
        for (int bad : Build.BAD_THINGS) {
            due("x " + bad, s.chain(2, bad, 1), -2);
        }
        due("0 is good", s.chain(2, 0, 1), 1);
        due("5 is good", s.chain(2, 5, 1), 2);
    }

    private static void chainNegativePlan() {
        StratifiedRules s = new StratifiedRules();
        int[] plans = {-1, -2, -6, -7, -8, -9, -16, -47, -48, -256, -65536 + 9, Build.LEAST, Build.LEAST + 1};
        for (int plan : plans) {
            due("plan " + plan, s.chain(0, 0, plan), -3);
        }
        due("plan 0 is not negative", s.chain(0, 0, 0), -4);
    }

    private static void chainStepTooLarge() {
        StratifiedRules s = new StratifiedRules();
        for (int plan = 48; plan < 72; plan++) {
            due("plan " + plan, s.chain(0, 0, plan), -3);
        }
        int[] plans = {256 + 1, 2048 + 1, 65536 + 9, 1 << 30, Build.GREATEST - 1, Build.GREATEST};
        for (int plan : plans) {
            due("plan " + plan, s.chain(0, 0, plan), -3);
        }
        due("step 5 is not too large", s.chain(0, 0, 41), 1);
    }

    private static void chainBadCount() {
        StratifiedRules s = new StratifiedRules();
        for (int step = 0; step < 6; step++) {
            due("step " + step + " count 0", s.chain(0, 0, 8 * step), -4);
            due("step " + step + " count 7", s.chain(0, 0, 8 * step + 7), -4);
        }
        due("count 1 is good", s.chain(0, 0, 1), 1);
        due("count 6 is good", s.chain(0, 0, 6), 6);
    }

    private static void chainCountsGivenFacts() {
        StratifiedRules s = new StratifiedRules();
        s.rule(189);
        due("a derived one does not count", s.chain(1, 0, 3), 3);
        due("the same again", s.chain(1, 0, 3), 3);
        due("overlapping", s.chain(1, 1, 3), 4);
        s.give(1, 0, 5, 1);
        due("with one given alone", s.chain(1, 0, 1), 5);
        s.give(1, 1, 1, 0);
        due("with one taken back", s.chain(1, 0, 1), 4);
        for (int step = 0; step < 6; step++) {
            s.chain(1, step, 8 * step + 6);
        }
        due("all", s.chain(1, 0, 1), 36);
        due("those of another relation do not count", s.chain(0, 0, 1), 1);
    }

    private static void draftIsEmptyAtFirst() {
        due("blank", new StratifiedRules().blank(), 0);
        due("first atom", new StratifiedRules().body(0, 0), 1);
        due("head with a variable", new StratifiedRules().rule(700), -4);
    }

    private static void bodyBadAtom() {
        StratifiedRules s = new StratifiedRules();
        for (int bad : Build.BAD_ATOMS) {
            due("plain " + bad, s.body(bad, 0), -1);
            due("negated " + bad, s.body(bad, 1), -1);
        }
        due("0 is good", s.body(0, 0), 1);
        due("799 is good", s.body(799, 0), 2);
    }

    private static void bodyFullDraft() {
        StratifiedRules s = new StratifiedRules();
        Build.draft(s, 1, 12, 23);
        due("a fourth", s.body(44, 0), -2);
        due("a fourth, negated", s.body(44, 1), -2);
        due("it is not in the draft", s.rule(703), 0);
        s.chain(0, 0, 8 + 3);
        due("the first three are", s.next(7, -1), 3);
    }

    private static void bodyCounts() {
        StratifiedRules s = new StratifiedRules();
        for (int i = 1; i <= 3; i++) {
            due("atom " + i, s.body(44, i % 2), i);
        }
        s.blank();
        due("after blank", s.body(44, 0), 1);
        s.rule(44);
        due("after rule", s.body(44, 0), 1);
        due("the same once more", s.body(44, 0), 2);
    }

    private static void bodyWithAnyFlag() {
        for (int flag : Build.FLAGS_NOT_0) {
            StratifiedRules s = new StratifiedRules();
            s.body(44, flag);
            due("rule", s.rule(244), 0);
            due("negated " + flag, s.holds(2, 0, 0), 1);
            due("negated in its own layer " + flag, s.body(44, flag) + s.rule(44), 1 - 3);
        }
        StratifiedRules s = new StratifiedRules();
        s.body(44, 0);
        due("rule", s.rule(244), 0);
        due("0 is plain", s.holds(2, 0, 0), 0);
    }

    private static void ruleEmptiesTheDraft() {
        StratifiedRules s = new StratifiedRules();
        Build.draft(s, 1, 12, 23);
        due("rule", s.rule(103), 0);
        due("a head with variables over an empty draft", s.rule(103), -4);
        due("three atoms more", s.body(44, 0) + s.body(44, 0) + s.body(44, 0), 6);
        due("a second rule", s.rule(155), 1);
        due("blank", s.blank(), 0);
    }

    private static void ruleBadHead() {
        StratifiedRules s = new StratifiedRules();
        for (int bad : Build.BAD_ATOMS) {
            due("empty body, " + bad, s.rule(bad), -1);
        }
        s.body(0, 0);
        for (int bad : Build.BAD_ATOMS) {
            due("some body, " + bad, s.rule(bad), -1);
        }
        due("0 is good", s.rule(0), 0);
        due("799 is good", s.rule(799), 1);
    }

    private static void ruleFullList() {
        StratifiedRules s = Build.ruleList(13);
        due("the fourteenth", s.rule(799), 13);
        due("a fifteenth", s.rule(798), -2);
        due("a fifteenth with a body", s.body(44, 0) + s.rule(798), 1 - 2);
        due("it derives nothing", s.holds(7, 5, 4), 0);
        due("room again", s.drop(13), 13);
        due("the fourteenth again", s.rule(744), 13);
    }

    private static void ruleLayerInAnyPlace() {
        for (int place = 0; place < 3; place++) {
            int[] plain = {144, 144, 144};
            int[] negated = {144, 144, 144};
            plain[place] = 444;
            negated[place] = Build.not(344);
            due("plain at " + place, Build.make(new StratifiedRules(), 344, plain), -3);
            due("plain at " + place + " fits", Build.make(new StratifiedRules(), 444, plain), 0);
            due("negated at " + place, Build.make(new StratifiedRules(), 344, negated), -3);
            due("negated at " + place + ", lower still", Build.make(new StratifiedRules(), 144, negated), -3);
            due("negated at " + place + " fits", Build.make(new StratifiedRules(), 444, negated), 0);
        }
    }

    private static void ruleLooseVariable() {
        for (int v = 0; v < 4; v++) {
            due("head's first " + v, new StratifiedRules().rule(204 + 10 * v), -4);
            due("head's second " + v, new StratifiedRules().rule(240 + v), -4);
            due("negated first " + v, Build.make(new StratifiedRules(), 244, Build.not(4 + 10 * v)), -4);
            due("negated second " + v, Build.make(new StratifiedRules(), 244, Build.not(40 + v)), -4);
            due("both " + v, Build.make(new StratifiedRules(), 200 + 11 * v, Build.not(11 * v)), -4);
            due("plain too " + v, Build.make(new StratifiedRules(), 200 + 11 * v, Build.not(11 * v), 4 + 10 * v), 0);
            due("plain alone " + v, Build.make(new StratifiedRules(), 244, 40 + v), 0);
        }
    }

    private static void ruleNumbers() {
        StratifiedRules s = new StratifiedRules();
        for (int i = 0; i < 14; i++) {
            due("rule " + i, s.rule(744), i);
        }
        s.drop(4);
        s.drop(0);
        due("after two dropped", s.rule(744), 12);
    }

    private static void ruleRefusedKeepsTheDraft() {
        StratifiedRules s = new StratifiedRules();
        s.chain(0, 0, 8 + 2);
        Build.draft(s, 1, 12, Build.not(102));
        due("-1", s.rule(800), -1);
        due("-3", s.rule(102), -3);
        due("-4", s.rule(203), -4);
        due("the draft as it was", s.rule(202), 0);
        due("what it derives", s.next(2, -1), 2);
        StratifiedRules full = Build.ruleList(14);
        full.chain(0, 0, 8 + 2);
        Build.draft(full, 1, 12, Build.not(102));
        due("-2", full.rule(202), -2);
        full.drop(13);
        due("the draft as it was, after -2", full.rule(202), 13);
        due("what it derives, after -2", full.next(2, -1), 2);
    }

    private static void blankEmptiesTheDraft() {
        StratifiedRules s = new StratifiedRules();
        Build.draft(s, 701, 723, Build.not(744));
        s.blank();
        due("nothing has a layer or a variable", s.rule(44), 0);
        due("its body is empty", s.holds(0, 0, 0), 1);
        Build.draft(s, 99, 99, 99);
        s.blank();
        due("room for three", s.body(44, 0) + s.body(44, 0) + s.body(44, 0), 6);
        due("rule", s.rule(199), 1);
        due("over the new ones alone", s.holds(1, 5, 5), 1);
    }

    private static void blankCounts() {
        StratifiedRules s = new StratifiedRules();
        for (int length = 0; length <= 3; length++) {
            for (int i = 0; i < length; i++) {
                s.body(799, i);
            }
            due("draft of " + length, s.blank(), length);
            due("and again", s.blank(), 0);
        }
        Build.draft(s, 1, 2, 3, 4);
        due("a fourth one is not counted", s.blank(), 3);
    }

    private static void dropAtEveryPlace() {
        for (int length = 1; length <= 14; length++) {
            for (int place = 0; place < length; place++) {
                StratifiedRules s = Build.ruleList(length);
                s.drop(place);
                due("its fact", s.holds(7, place / 6, place % 6), 0);
                for (int i = 0; i < length - 1; i++) {
                    int fact = i < place ? i : i + 1;
                    due("of " + length + " drop " + place + ": rule " + i, s.supports(i, fact), 1);
                    due("of " + length + " drop " + place + ": fact " + fact, s.holds(7, fact / 6, fact % 6), 1);
                }
            }
        }
    }

    /** Each rule has its own number of atoms, of negated ones, of variables, and of ways. */
    private static void dropMovesWholeRules() {
        int[][] rules = {
            {244}, {201, 1, 12, Build.not(2)}, {355, Build.not(55)}, {303, 3, 23}, {411, 11}, {501, 1, 23}};
        int[] ways = {1, 4, 1, 8, 1, 36};
        for (int place = 0; place < rules.length; place++) {
            StratifiedRules s = new StratifiedRules();
            s.chain(0, 0, 8 + 5);
            s.give(0, 5, 5, 1);
            for (int[] rule : rules) {
                Build.make(s, rule[0], Arrays.copyOfRange(rule, 1, rule.length));
            }
            for (int i = 0; i < rules.length; i++) {
                due("rule " + i, s.ways(i), ways[i]);
            }
            s.drop(place);
            for (int i = 0; i < rules.length - 1; i++) {
                due("rule " + i + " without " + place, s.ways(i), ways[i < place ? i : i + 1]);
            }
        }
    }

    private static void dropNoSuchRule() {
        for (int length = 0; length <= 14; length++) {
            StratifiedRules s = Build.ruleList(length);
            int[] bad = {-1, length, length + 1, 14, 15, 256, 65536, Build.LEAST, Build.GREATEST};
            for (int rule : bad) {
                due("of " + length + " drop " + rule, s.drop(rule), -1);
            }
            due("all are left", s.rules(), length);
        }
    }

    private static void dropCounts() {
        StratifiedRules s = Build.ruleList(14);
        for (int left = 13; left >= 0; left--) {
            due("drop", s.drop(left / 2), left);
            due("their facts", s.size(7), left);
        }
        due("none to drop", s.drop(0), -1);
    }
}
