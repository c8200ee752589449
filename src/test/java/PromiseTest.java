/** Each promise by hand: ordinary inputs, the edges that the document names, and wrong inputs. */
public final class PromiseTest {
    private static final int LEAST = Build.LEAST;
    private static final int GREATEST = Build.GREATEST;

    public static void main(String[] args) {
        newObject();
        give();
        giveRefuses();
        chain();
        chainRefuses();
        body();
        rule();
        ruleLayers();
        ruleVariables();
        ruleList();
        blank();
        drop();
        dropTakesTheWholeRuleAlong();
        rules();
        given();
        holds();
        holdsThroughNegation();
        holdsAfterManyRounds();
        size();
        next();
        fan();
        ways();
        supports();
        weight();
        within();
        questionsChangeNothing();
        objectsAreApart();
        Due.end();
    }

    private static void due(String what, int got, int want) {
        Due.due(what, got, want);
    }

    private static void newObject() {
        StratifiedRules s = new StratifiedRules();
        due("1: rules()", s.rules(), 0);
        for (int relation = 0; relation < 8; relation++) {
            due("1: size", s.size(relation), 0);
            due("1: next", s.next(relation, -1), -2);
            for (int fact = 0; fact < 36; fact++) {
                due("1: given", s.given(relation, fact / 6, fact % 6), 0);
                due("1: holds", s.holds(relation, fact / 6, fact % 6), 0);
            }
        }
        due("1: no rule 0", s.ways(0), -1);
        due("1: empty draft", s.blank(), 0);
    }

    private static void give() {
        StratifiedRules s = new StratifiedRules();
        due("2: first time", s.give(7, 5, 5, 1), 0);
        due("2: second time", s.give(7, 5, 5, 1), 1);
        due("2: is given", s.given(7, 5, 5), 1);
        due("2: holds", s.holds(7, 5, 5), 1);
        due("2: take back", s.give(7, 5, 5, 0), 1);
        due("2: take back again", s.give(7, 5, 5, 0), 0);
        due("2: not given", s.given(7, 5, 5), 0);
        due("2: does not hold", s.holds(7, 5, 5), 0);
        due("2: flag negative", s.give(0, 0, 0, LEAST), 0);
        due("2: flag negative gives", s.given(0, 0, 0), 1);
        due("2: pair has an order", s.give(0, 1, 2, 2), 0);
        due("2: (2, 1) is another", s.given(0, 2, 1), 0);
        due("2: relation 1 is another", s.given(1, 1, 2), 0);
        Build.make(s, 45);
        due("2: derived is not given before", s.give(0, 0, 1, 0), 0);
        due("2: derived still holds", s.holds(0, 0, 1), 1);
        due("2: derived, then given", s.give(0, 0, 1, 1), 0);
        due("2: take back what is derived too", s.give(0, 0, 1, 0), 1);
        due("2: it still holds", s.holds(0, 0, 1), 1);
    }

    private static void giveRefuses() {
        StratifiedRules s = new StratifiedRules();
        int[] badRelations = {-1, 8, LEAST, GREATEST};
        int[] badThings = {-1, 6, LEAST, GREATEST};
        for (int bad : badRelations) {
            due("2: relation " + bad, s.give(bad, 0, 0, 1), -1);
            due("2: relation before thing", s.give(bad, 6, 6, 1), -1);
        }
        for (int bad : badThings) {
            due("2: x " + bad, s.give(0, bad, 0, 1), -2);
            due("2: y " + bad, s.give(0, 0, bad, 1), -2);
        }
        for (int relation = 0; relation < 8; relation++) {
            due("2: refused changes nothing", s.size(relation), 0);
        }
    }

    private static void chain() {
        StratifiedRules s = new StratifiedRules();
        due("3: step 1 count 4", s.chain(0, 0, 12), 4);
        due("3: (0, 1)", s.given(0, 0, 1), 1);
        due("3: (3, 4)", s.given(0, 3, 4), 1);
        due("3: (4, 5) is one too far", s.given(0, 4, 5), 0);
        due("3: overlap counts once", s.chain(0, 2, 8 + 3), 5);
        due("3: around the end", s.chain(1, 4, 8 * 5 + 3), 3);
        due("3: (4, 3)", s.given(1, 4, 3), 1);
        due("3: (5, 4)", s.given(1, 5, 4), 1);
        due("3: (0, 5)", s.given(1, 0, 5), 1);
        due("3: step 0 count 1", s.chain(2, 5, 1), 1);
        due("3: (5, 5)", s.given(2, 5, 5), 1);
        due("3: step 5 count 6", s.chain(7, 5, 46), 6);
        due("3: step 0 count 6", s.chain(7, 3, 6), 12);
        Build.make(s, 344);
        due("3: derived ones do not count", s.chain(3, 1, 1), 1);
        due("3: derived ones hold", s.size(3), 2);
        Build.make(s, 410, 1);
        due("3: what follows", s.size(4), 5);
        s.chain(0, 5, 8 + 1);
        due("3: what follows then", s.size(4), 6);
    }

    private static void chainRefuses() {
        StratifiedRules s = new StratifiedRules();
        due("3: relation -1", s.chain(-1, 6, -1), -1);
        due("3: relation 8", s.chain(8, 0, 1), -1);
        due("3: relation least", s.chain(LEAST, 0, 1), -1);
        due("3: x -1", s.chain(0, -1, -1), -2);
        due("3: x 6", s.chain(0, 6, 48), -2);
        due("3: x greatest", s.chain(0, GREATEST, 1), -2);
        due("3: plan -1", s.chain(0, 0, -1), -3);
        due("3: plan -8", s.chain(0, 0, -8), -3);
        due("3: plan least", s.chain(0, 0, LEAST), -3);
        due("3: plan greatest", s.chain(0, 0, GREATEST), -3);
        due("3: step 6 count 0", s.chain(0, 0, 48), -3);
        due("3: step 6 count 1", s.chain(0, 0, 49), -3);
        due("3: step 0 count 0", s.chain(0, 0, 0), -4);
        due("3: step 5 count 0", s.chain(0, 0, 40), -4);
        due("3: step 0 count 7", s.chain(0, 0, 7), -4);
        due("3: step 5 count 7", s.chain(0, 0, 47), -4);
        due("3: refused changes nothing", s.size(0), 0);
    }

    private static void body() {
        StratifiedRules s = new StratifiedRules();
        due("4: -1", s.body(-1, 0), -1);
        due("4: 800", s.body(800, 0), -1);
        due("4: least", s.body(LEAST, 1), -1);
        due("4: greatest", s.body(GREATEST, 1), -1);
        due("4: refused changes nothing", s.blank(), 0);
        due("4: first", s.body(0, 0), 1);
        due("4: second", s.body(799, 0), 2);
        due("4: third", s.body(799, 1), 3);
        due("4: fourth", s.body(0, 0), -2);
        due("4: bad atom before full draft", s.body(800, 0), -1);
        due("4: refused leaves three", s.blank(), 3);
        s.give(0, 0, 1, 1);
        s.body(45, 7);
        s.body(54, LEAST);
        s.body(45, 0);
        due("4: rule over the draft", s.rule(244), 0);
        due("4: any flag but 0 negates", s.size(2), 0);
        s.body(54, -1);
        s.body(45, 0);
        due("4: second rule over the draft", s.rule(244), 1);
        due("4: in its order and with its flags", s.size(2), 1);
    }

    private static void rule() {
        StratifiedRules s = new StratifiedRules();
        s.body(1, 0);
        due("5: -1", s.rule(-1), -1);
        due("5: 800", s.rule(800), -1);
        due("5: least", s.rule(LEAST), -1);
        due("5: greatest", s.rule(GREATEST), -1);
        due("5: variable 2 is nowhere", s.rule(12), -4);
        due("5: no rule yet", s.rules(), 0);
        due("5: draft stayed", s.rule(110), 0);
        due("5: draft is empty", s.blank(), 0);
        s.give(0, 2, 4, 1);
        due("5: what follows", s.holds(1, 4, 2), 1);
        due("5: empty body", s.rule(799), 1);
        due("5: empty body's head", s.holds(7, 5, 5), 1);
        due("5: empty body, one variable", s.rule(740), -4);
        due("5: empty body, another", s.rule(703), -4);
        Build.make(s, 300, 7);
        due("5: term 7 is thing 3", s.size(3), 0);
        due("5: term 8 is thing 4", Build.make(s, 300, 8), 3);
        s.give(0, 1, 4, 1);
        due("5: with (1, 4) and (2, 4)", s.size(3), 2);
        due("5: (1, 1)", s.holds(3, 1, 1), 1);
    }

    private static void ruleLayers() {
        for (int head = 0; head < 8; head++) {
            for (int atom = 0; atom < 8; atom++) {
                StratifiedRules s = new StratifiedRules();
                int plain = atom / 2 <= head / 2 ? 0 : -3;
                int negated = atom / 2 < head / 2 ? 0 : -3;
                due("5: " + head + " from " + atom, Build.make(s, 100 * head + 1, 100 * atom + 1), plain);
                StratifiedRules t = new StratifiedRules();
                due("5: " + head + " from not " + atom,
                        Build.make(t, 100 * head + 44, Build.not(100 * atom + 44)), negated);
            }
        }
        StratifiedRules s = new StratifiedRules();
        due("5: third atom too high", Build.make(s, 301, 1, 101, 401), -3);
        due("5: draft stays after -3", s.blank(), 3);
        due("5: layer before variables", Build.make(s, 23, 201), -3);
        due("5: negated of the same layer, variables loose", Build.make(s, 223, Build.not(301)), -3);
    }

    private static void ruleVariables() {
        StratifiedRules s = new StratifiedRules();
        due("5: variable only in a negated atom", Build.make(s, 244, Build.not(4)), -4);
        due("5: draft stays after -4", s.blank(), 1);
        due("5: head's variable only in a negated atom", Build.make(s, 240, Build.not(40)), -4);
        due("5: second term loose", Build.make(s, 203, 1), -4);
        due("5: first term loose", Build.make(s, 230, 1), -4);
        due("5: negated atom's second term loose", Build.make(s, 201, 1, Build.not(13)), -4);
        due("5: negated atom's first term loose", Build.make(s, 201, 1, Build.not(31)), -4);
        due("5: plain atom behind the negated one", Build.make(s, 201, Build.not(110), 1), 0);
        due("5: over two plain atoms", Build.make(s, 203, 1, 23, Build.not(12)), 1);
        due("5: all things", Build.make(s, 249, Build.not(94)), 2);
        due("5: variable of the body alone", Build.make(s, 244, 33), 3);
    }

    private static void ruleList() {
        StratifiedRules s = new StratifiedRules();
        for (int i = 0; i < 14; i++) {
            due("5: number", Build.make(s, 44 + i % 6), i);
        }
        due("5: fifteenth", Build.make(s, 44, 701), -2);
        due("5: draft stays after -2", s.blank(), 1);
        due("5: bad head before the full list", s.rule(800), -1);
        due("5: full list before loose variable", s.rule(0), -2);
        due("5: still 14", s.rules(), 14);
        due("5: drop one", s.drop(0), 13);
        due("5: room again", s.rule(799), 13);
        due("5: the last holds", s.holds(7, 5, 5), 1);
    }

    private static void blank() {
        StratifiedRules s = new StratifiedRules();
        due("6: empty", s.blank(), 0);
        s.body(1, 0);
        s.body(2, 1);
        due("6: two", s.blank(), 2);
        due("6: empty again", s.blank(), 0);
        due("6: from the start", s.body(3, 0), 1);
        due("6: one", s.blank(), 1);
        due("6: nothing is left of it", s.rule(3), -4);
    }

    private static void drop() {
        StratifiedRules s = Build.reach(12);
        due("7: -1", s.drop(-1), -1);
        due("7: 2", s.drop(2), -1);
        due("7: least", s.drop(LEAST), -1);
        due("7: greatest", s.drop(GREATEST), -1);
        due("7: refused changes nothing", s.size(1), 10);
        s.body(0, 0);
        due("7: drop the second", s.drop(1), 1);
        due("7: draft stays", s.blank(), 1);
        due("7: what holds then", s.size(1), 4);
        due("7: no second rule", s.ways(1), -1);
        due("7: drop the first", s.drop(0), 0);
        due("7: nothing follows", s.size(1), 0);
        due("7: none to drop", s.drop(0), -1);
    }

    private static void dropTakesTheWholeRuleAlong() {
        StratifiedRules s = new StratifiedRules();
        s.chain(0, 0, 12);
        Build.make(s, 144);
        Build.make(s, 201, 1, 12, Build.not(2));
        Build.make(s, 303, 3);
        due("7: first of three", s.drop(0), 2);
        due("7: rule 1 is rule 0", s.ways(0), 3);
        due("7: its head", s.supports(0, 6 * 2 + 3), 1);
        due("7: rule 2 is rule 1", s.ways(1), 4);
        due("7: the head of rule 1", s.supports(1, 6 * 3 + 4), 1);
        due("7: middle", s.drop(0), 1);
        due("7: what was rule 2", s.ways(0), 4);
        due("7: its facts stay", s.size(3), 4);
        due("7: the others' facts go", s.size(2), 0);
        StratifiedRules full = new StratifiedRules();
        for (int i = 0; i < 14; i++) {
            Build.make(full, 100 * (i / 6 + 2) + 44 + i % 6, 44);
        }
        full.give(0, 0, 0, 1);
        due("7: out of a full list", full.drop(3), 13);
        due("7: last one moved", full.supports(12, 1), 1);
        due("7: the one before it", full.supports(11, 0), 1);
        due("7: dropped fact", full.holds(2, 0, 3), 0);
        due("7: the end of a list", full.drop(12), 12);
        due("7: relation 4 has one left", full.size(4), 1);
    }

    private static void rules() {
        StratifiedRules s = new StratifiedRules();
        s.body(1, 0);
        due("8: none", s.rules(), 0);
        s.rule(1);
        due("8: one", s.rules(), 1);
        s.rule(800);
        due("8: a refused one does not count", s.rules(), 1);
        s.rule(44);
        due("8: two", s.rules(), 2);
        s.drop(0);
        due("8: one is left", s.rules(), 1);
    }

    private static void given() {
        StratifiedRules s = new StratifiedRules();
        s.give(3, 2, 5, 1);
        Build.make(s, 401, 301);
        due("9: given", s.given(3, 2, 5), 1);
        due("9: not given", s.given(3, 5, 2), 0);
        due("9: derived only", s.given(4, 2, 5), 0);
        refusesFact("9: ", true);
    }

    private static void refusesFact(String promise, boolean given) {
        int[][] calls = {{-1, 0, 0, -1}, {8, 0, 0, -1}, {8, 6, 6, -1}, {LEAST, 0, 0, -1}, {GREATEST, -1, 0, -1},
            {0, -1, 0, -2}, {0, 6, 0, -2}, {0, 0, -1, -2}, {0, 0, 6, -2}, {7, LEAST, 0, -2}, {7, 0, GREATEST, -2}};
        StratifiedRules s = new StratifiedRules();
        for (int[] call : calls) {
            int got = given ? s.given(call[0], call[1], call[2]) : s.holds(call[0], call[1], call[2]);
            due(promise + call[0] + " " + call[1] + " " + call[2], got, call[3]);
        }
    }

    private static void holds() {
        StratifiedRules s = Build.reach(12);
        for (int x = 0; x < 6; x++) {
            for (int y = 0; y < 6; y++) {
                due("10: reach " + x + " " + y, s.holds(1, x, y), x < y && y < 5 ? 1 : 0);
            }
        }
        s.give(0, 2, 3, 0);
        due("10: a gap", s.holds(1, 0, 4), 0);
        due("10: before the gap", s.holds(1, 0, 2), 1);
        due("10: given holds", s.holds(0, 0, 1), 1);
        StratifiedRules circle = new StratifiedRules();
        Build.make(circle, 1, 101);
        Build.make(circle, 101, 1);
        due("10: a circle founds nothing", circle.holds(0, 0, 0), 0);
        circle.give(1, 4, 2, 1);
        due("10: it carries what is given", circle.holds(0, 4, 2), 1);
        circle.give(1, 4, 2, 0);
        due("10: and lets it go", circle.holds(0, 4, 2) + circle.holds(1, 4, 2), 0);
        refusesFact("10: ", false);
    }

    private static void holdsThroughNegation() {
        StratifiedRules s = new StratifiedRules();
        Build.make(s, 601, 1, Build.not(401));
        Build.make(s, 401, 1, Build.not(201));
        Build.make(s, 201, 1, 101);
        s.chain(0, 0, 6);
        due("10: layer 2 by negation", s.size(4), 6);
        due("10: layer 3 by negation", s.size(6), 0);
        s.give(1, 3, 3, 1);
        due("10: layer 1", s.size(2), 1);
        due("10: layer 2 loses one", s.holds(4, 3, 3), 0);
        due("10: layer 3 wins it", s.holds(6, 3, 3), 1);
        due("10: and no other", s.size(6), 1);
        Build.make(s, 701, 1, Build.not(101));
        due("10: negation over three layers", s.size(7), 5);
        s.give(4, 3, 3, 1);
        due("10: given though no rule derives it", s.holds(4, 3, 3), 1);
        due("10: layer 3 loses it", s.size(6), 0);
    }

    /** Counts through the 72 facts of a layer, one to a round, in either order of the rules. */
    private static void holdsAfterManyRounds() {
        int[][] bodies = {{344, 299}, {304, 319, 10}, {302, 301, 12}, {204, 219, 10}, {202, 201, 12}, {244}};
        for (int backward = 0; backward < 2; backward++) {
            StratifiedRules s = new StratifiedRules();
            s.chain(0, 0, 8 + 5);
            for (int i = 0; i < bodies.length; i++) {
                int[] rule = bodies[backward == 1 ? bodies.length - 1 - i : i];
                int[] atoms = new int[rule.length - 1];
                System.arraycopy(rule, 1, atoms, 0, atoms.length);
                due("10: counting rule", Build.make(s, rule[0], atoms), i);
            }
            due("10: counted through relation 2", s.size(2), 36);
            due("10: counted through relation 3", s.size(3), 36);
            s.give(0, 4, 5, 0);
            due("10: stops at a gap", s.size(2), 5);
            due("10: never gets to relation 3", s.size(3), 0);
        }
    }

    private static void size() {
        StratifiedRules s = new StratifiedRules();
        due("11: -1", s.size(-1), -1);
        due("11: 8", s.size(8), -1);
        due("11: least", s.size(LEAST), -1);
        due("11: greatest", s.size(GREATEST), -1);
        Build.giveAll(s, 7);
        due("11: all", s.size(7), 36);
        s.give(7, 0, 0, 0);
        due("11: all but one", s.size(7), 35);
        s.give(0, 5, 5, 1);
        Build.make(s, 144, 99);
        Build.make(s, 145, 99);
        s.give(1, 0, 0, 1);
        due("11: given and derived counts once", s.size(1), 2);
    }

    private static void next() {
        StratifiedRules s = new StratifiedRules();
        s.give(5, 0, 0, 1);
        s.give(5, 1, 3, 1);
        s.give(5, 5, 5, 1);
        Build.make(s, 554);
        due("12: least", s.next(5, LEAST), 0);
        due("12: -1", s.next(5, -1), 0);
        due("12: 0", s.next(5, 0), 6);
        due("12: derived one", s.next(5, 5), 6);
        due("12: 6", s.next(5, 6), 9);
        due("12: 9", s.next(5, 9), 35);
        due("12: 34", s.next(5, 34), 35);
        due("12: 35", s.next(5, 35), -2);
        due("12: greatest", s.next(5, GREATEST), -2);
        due("12: none at all", s.next(4, -1), -2);
        due("12: relation 8", s.next(8, 0), -1);
        due("12: relation -1", s.next(-1, GREATEST), -1);
    }

    private static void fan() {
        StratifiedRules s = Build.reach(12);
        due("13: from 0", s.fan(1, 0), 4);
        due("13: from 3", s.fan(1, 3), 1);
        due("13: from 4", s.fan(1, 4), 0);
        due("13: from 5", s.fan(1, 5), 0);
        s.give(1, 5, 5, 1);
        due("13: from 5, to itself", s.fan(1, 5), 1);
        Build.giveAll(s, 2);
        due("13: to all", s.fan(2, 0), 6);
        due("13: to all from the last", s.fan(2, 5), 6);
        due("13: relation -1", s.fan(-1, 6), -1);
        due("13: relation 8", s.fan(8, 0), -1);
        due("13: x -1", s.fan(0, -1), -2);
        due("13: x 6", s.fan(0, 6), -2);
        due("13: x greatest", s.fan(7, GREATEST), -2);
    }

    private static void ways() {
        StratifiedRules s = new StratifiedRules();
        Build.giveAll(s, 0);
        Build.make(s, 244);
        Build.make(s, 244, 33);
        Build.make(s, 244, 23);
        Build.make(s, 244, 1, 23);
        Build.make(s, 244, 1, 12);
        Build.make(s, 244, 99, 45);
        Build.make(s, 244, 1, Build.not(101));
        Build.make(s, 244, Build.not(44));
        Build.make(s, 244, 1, Build.not(111), 2);
        due("14: no variables, no body", s.ways(0), 1);
        due("14: one variable twice", s.ways(1), 6);
        due("14: variables 2 and 3", s.ways(2), 36);
        due("14: all four", s.ways(3), 1296);
        due("14: three", s.ways(4), 216);
        due("14: things alone", s.ways(5), 1);
        due("14: negated", s.ways(6), 36);
        due("14: negated thing", s.ways(7), 0);
        s.give(1, 2, 2, 1);
        due("14: negated, one less", s.ways(6), 35);
        due("14: negated on one variable", s.ways(8), 180);
        s.give(0, 0, 0, 0);
        due("14: on the diagonal", s.ways(1), 5);
        due("14: negated thing then", s.ways(7), 1);
        due("14: -1", s.ways(-1), -1);
        due("14: 9", s.ways(9), -1);
        due("14: least", s.ways(LEAST), -1);
        due("14: greatest", s.ways(GREATEST), -1);
        StratifiedRules own = Build.reach(12);
        due("14: over what the rule derives itself", own.ways(1), 6);
    }

    private static void supports() {
        StratifiedRules s = Build.reach(12);
        due("15: (0, 1) by rule 0", s.supports(0, 1), 1);
        due("15: (0, 2) not by rule 0", s.supports(0, 2), 0);
        due("15: (0, 2) by rule 1", s.supports(1, 2), 1);
        due("15: (0, 1) not by rule 1", s.supports(1, 1), 0);
        due("15: given alone is no support", s.give(1, 5, 5, 1) + s.supports(0, 35), 0);
        Build.make(s, 299, 1, Build.not(101));
        due("15: negated", s.supports(2, 35), 0);
        Build.make(s, 299, 1, Build.not(110));
        due("15: last fact", s.supports(3, 35), 1);
        due("15: first fact", s.supports(3, 0), 0);
        due("15: rule -1", s.supports(-1, 36), -1);
        due("15: rule 4", s.supports(4, 0), -1);
        due("15: rule greatest", s.supports(GREATEST, -1), -1);
        due("15: fact -1", s.supports(0, -1), -2);
        due("15: fact 36", s.supports(0, 36), -2);
        due("15: fact 64", s.supports(0, 64 + 1), -2);
        due("15: fact least", s.supports(0, LEAST), -2);
        due("15: fact greatest", s.supports(0, GREATEST), -2);
    }

    private static void weight() {
        StratifiedRules s = Build.reach(12);
        due("16: founds all", s.weight(0), 10);
        due("16: founds the far ones", s.weight(1), 6);
        Build.make(s, 201, 2, 13, Build.not(101));
        due("16: nothing rests on it", s.weight(2), s.size(2));
        due("16: goes both ways", s.weight(0), 16);
        Build.make(s, 301, 1, Build.not(101));
        due("16: what holds without it counts too", s.weight(0), 20);
        Build.make(s, 101, 1);
        due("16: two alike weigh nothing", s.weight(0) + s.weight(4), 0);
        due("16: the first two stay", s.size(1), 10);
        StratifiedRules t = new StratifiedRules();
        Build.make(t, 44);
        t.give(0, 0, 0, 1);
        due("16: given too", t.weight(0), 0);
        t.give(0, 0, 0, 0);
        due("16: not given", t.weight(0), 1);
        due("16: -1", t.weight(-1), -1);
        due("16: 1", t.weight(1), -1);
        due("16: least", t.weight(LEAST), -1);
        due("16: greatest", t.weight(GREATEST), -1);
    }

    private static void within() {
        StratifiedRules s = Build.reach(12);
        due("17: 0 in 1", s.within(0, 1), 1);
        due("17: 1 in 0", s.within(1, 0), 0);
        due("17: in itself", s.within(1, 1), 1);
        due("17: empty in all", s.within(7, 0), 1);
        due("17: not in the empty one", s.within(0, 7), 0);
        due("17: empty in empty", s.within(6, 7), 1);
        s.give(7, 5, 5, 1);
        due("17: side by side", s.within(7, 1) + s.within(1, 7), 0);
        due("17: r -1", s.within(-1, 0), -1);
        due("17: r 8", s.within(8, 0), -1);
        due("17: s -1", s.within(0, -1), -1);
        due("17: s 8", s.within(0, 8), -1);
        due("17: both", s.within(LEAST, GREATEST), -1);
    }

    private static void questionsChangeNothing() {
        StratifiedRules s = Build.reach(12);
        s.body(1, 0);
        for (int i = 0; i < 2; i++) {
            due("question: weight", s.weight(0), 10);
            due("question: ways", s.ways(1), 6);
            due("question: supports", s.supports(1, 4), 1);
            due("question: size", s.size(1), 10);
            due("question: next", s.next(1, 4), 8);
            due("question: fan", s.fan(1, 0), 4);
            due("question: within", s.within(0, 1), 1);
            due("question: rules", s.rules(), 2);
        }
        due("question: draft", s.blank(), 1);
    }

    private static void objectsAreApart() {
        StratifiedRules s = Build.reach(12);
        StratifiedRules t = new StratifiedRules();
        s.body(1, 0);
        due("two objects: rules", t.rules(), 0);
        due("two objects: facts", t.size(0) + t.size(1), 0);
        due("two objects: draft", t.blank(), 0);
        due("two objects: draft of the first", s.blank(), 1);
    }
}
