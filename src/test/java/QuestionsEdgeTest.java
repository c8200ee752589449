/** The boundary cases that promises 8 to 17 name, one test to a sentence. */
public final class QuestionsEdgeTest {
    public static void main(String[] args) {
        Due.sentence("8: How many rules there are", QuestionsEdgeTest::rulesFromNoneToAll);
        Due.sentence("9: 1 if the fact is given, otherwise 0", QuestionsEdgeTest::givenIsNotDerived);
        Due.sentence("9: -1 if relation is not good", QuestionsEdgeTest::givenBadRelation);
        Due.sentence("9: -2 if x or y is not good", QuestionsEdgeTest::givenBadThing);
        Due.sentence("10: 1 if the fact holds, otherwise 0", QuestionsEdgeTest::holdsGivenOrDerived);
        Due.sentence("10: -1 if relation is not good", QuestionsEdgeTest::holdsBadRelation);
        Due.sentence("10: -2 if x or y is not good", QuestionsEdgeTest::holdsBadThing);
        Due.sentence("11: How many facts of the relation hold", QuestionsEdgeTest::sizeFromNoneToAll);
        Due.sentence("11: -1 if it is not good", QuestionsEdgeTest::sizeBadRelation);
        Due.sentence("12: The least number of a fact that holds, greater than after",
                QuestionsEdgeTest::nextIsTheLeastGreater);
        Due.sentence("12: after (any int)", QuestionsEdgeTest::nextAfterAnyInt);
        Due.sentence("12: -1 if relation is not good", QuestionsEdgeTest::nextBadRelation);
        Due.sentence("12: -2 if there is none", QuestionsEdgeTest::nextNone);
        Due.sentence("13: How many things y are there such that (x, y) holds", QuestionsEdgeTest::fanFromNoneToAll);
        Due.sentence("13: -1 if relation is not good", QuestionsEdgeTest::fanBadRelation);
        Due.sentence("13: -2 if x is not good", QuestionsEdgeTest::fanBadThing);
        Due.sentence("14: ways to give a rule's variables (those that occur in it) things",
                QuestionsEdgeTest::waysByNumberOfVariables);
        Due.sentence("14: make all its plain body atoms hold and no negated one",
                QuestionsEdgeTest::waysFromNoneToAll);
        Due.sentence("14: plain body atoms hold and no negated one (derived, not given)",
                QuestionsEdgeTest::waysOverDerivedFacts);
        Due.sentence("14: -1 if there is no such rule", QuestionsEdgeTest::waysNoSuchRule);
        Due.sentence("15: its head the fact with the number 6 * x + y", QuestionsEdgeTest::supportsItsHeadAlone);
        Due.sentence("15: some way makes all its plain body atoms hold and no negated one",
                QuestionsEdgeTest::supportsWhileItsBodyIsMet);
        Due.sentence("15: plain body atoms hold and no negated one (derived, not given)",
                QuestionsEdgeTest::supportsOverDerivedFacts);
        Due.sentence("15: -1 if there is no such rule", QuestionsEdgeTest::supportsNoSuchRule);
        Due.sentence("15: -2 if fact is not in 0 .. 35", QuestionsEdgeTest::supportsBadFact);
        Due.sentence("16: facts that hold now would not hold without the rule",
                QuestionsEdgeTest::weightOfWhatWouldGo);
        Due.sentence("16: or hold without it but not now", QuestionsEdgeTest::weightOfWhatWouldCome);
        Due.sentence("16: over all relations", QuestionsEdgeTest::weightOverAllRelations);
        Due.sentence("16: How many (none)", QuestionsEdgeTest::weightOfNothing);
        Due.sentence("16: -1 if there is no such rule", QuestionsEdgeTest::weightNoSuchRule);
        Due.sentence("17: 1 if all facts of relation r that hold hold for relation s too, otherwise 0",
                QuestionsEdgeTest::withinFromNoneToAll);
        Due.sentence("17: facts that hold", QuestionsEdgeTest::withinLooksAtWhatHolds);
        Due.sentence("17: -1 if r or s is not good", QuestionsEdgeTest::withinBadRelation);
        Due.end();
    }

    private static void due(String what, int got, int want) {
        Due.due(what, got, want);
    }

    private static StratifiedRules allGiven(int relation) {
        StratifiedRules s = new StratifiedRules();
        Build.giveAll(s, relation);
        return s;
    }

    private static int[] noSuchRules(int length) {
        return new int[] {-1, length, length + 1, 14, 15, 256, 65536, Build.LEAST, Build.GREATEST};
    }

    private static void rulesFromNoneToAll() {
        for (int length = 0; length <= 14; length++) {
            due("list of " + length, Build.ruleList(length).rules(), length);
        }
        StratifiedRules s = Build.ruleList(14);
        due("a refused one", s.rule(744), -2);
        due("is not counted", s.rules(), 14);
        s.drop(13);
        due("a dropped one is not counted", s.rules(), 13);
        s.body(1, 0);
        due("a draft is no rule", s.rules(), 13);
    }

    private static void givenIsNotDerived() {
        StratifiedRules s = new StratifiedRules();
        s.rule(745);
        due("derived alone", s.given(7, 0, 1), 0);
        s.give(7, 0, 1, 1);
        due("given and derived", s.given(7, 0, 1), 1);
        s.drop(0);
        due("given alone", s.given(7, 0, 1), 1);
        s.give(7, 0, 1, 0);
        due("neither", s.given(7, 0, 1), 0);
    }

    private static void givenBadRelation() {
        StratifiedRules s = allGiven(7);
        for (int bad : Build.BAD_RELATIONS) {
            due("relation " + bad, s.given(bad, 0, 0), -1);
        }
        due("relation 0 is good", s.given(0, 0, 0), 0);
        due("relation 7 is good", s.given(7, 0, 0), 1);
    }

    private static void givenBadThing() {
        StratifiedRules s = allGiven(7);
        for (int bad : Build.BAD_THINGS) {
            for (int good = 0; good < 6; good++) {
                due("x " + bad, s.given(7, bad, good), -2);
                due("y " + bad, s.given(7, good, bad), -2);
            }
            due("x and y " + bad, s.given(7, bad, bad), -2);
        }
        due("0 and 5 are good", s.given(7, 0, 5), 1);
        due("5 and 0 are good", s.given(7, 5, 0), 1);
    }

    private static void holdsGivenOrDerived() {
        StratifiedRules s = new StratifiedRules();
        due("neither", s.holds(0, 5, 5), 0);
        s.rule(99);
        due("derived alone", s.holds(0, 5, 5), 1);
        s.give(0, 5, 5, 1);
        due("given and derived", s.holds(0, 5, 5), 1);
        s.drop(0);
        due("given alone", s.holds(0, 5, 5), 1);
        s.give(0, 5, 5, 0);
        due("neither again", s.holds(0, 5, 5), 0);
    }

    private static void holdsBadRelation() {
        StratifiedRules s = allGiven(7);
        for (int bad : Build.BAD_RELATIONS) {
            due("relation " + bad, s.holds(bad, 0, 0), -1);
        }
        due("relation 0 is good", s.holds(0, 0, 0), 0);
        due("relation 7 is good", s.holds(7, 0, 0), 1);
    }

    private static void holdsBadThing() {
        StratifiedRules s = allGiven(7);
        for (int bad : Build.BAD_THINGS) {
            for (int good = 0; good < 6; good++) {
                due("x " + bad, s.holds(7, bad, good), -2);
                due("y " + bad, s.holds(7, good, bad), -2);
            }
            due("x and y " + bad, s.holds(7, bad, bad), -2);
        }
        due("0 and 5 are good", s.holds(7, 0, 5), 1);
        due("5 and 0 are good", s.holds(7, 5, 0), 1);
    }

    private static void sizeFromNoneToAll() {
        StratifiedRules s = new StratifiedRules();
        Build.make(s, 101, 1);
        for (int fact = 0; fact < 36; fact++) {
            due("given " + fact, s.size(0), fact);
            due("derived " + fact, s.size(1), fact);
            s.give(0, fact / 6, fact % 6, 1);
        }
        due("all given", s.size(0), 36);
        due("all derived", s.size(1), 36);
        Build.giveAll(s, 1);
        due("given and derived", s.size(1), 36);
    }

    private static void sizeBadRelation() {
        StratifiedRules s = allGiven(7);
        for (int bad : Build.BAD_RELATIONS) {
            due("relation " + bad, s.size(bad), -1);
        }
        due("relation 0 is good", s.size(0), 0);
        due("relation 7 is good", s.size(7), 36);
    }

    private static void nextIsTheLeastGreater() {
        StratifiedRules all = allGiven(2);
        for (int after = -1; after < 35; after++) {
            due("all, after " + after, all.next(2, after), after + 1);
        }
        for (int fact = 0; fact < 36; fact++) {
            StratifiedRules one = new StratifiedRules();
            one.rule(244 + 10 * (fact / 6) + fact % 6);
            one.give(2, 5, 5, 1);
            due("before " + fact, one.next(2, fact - 1), fact);
            due("long before " + fact, one.next(2, -1), fact);
            due("after " + fact, one.next(2, fact), fact < 35 ? 35 : -2);
        }
    }

    private static void nextAfterAnyInt() {
        StratifiedRules s = allGiven(0);
        int[] low = {Build.LEAST, Build.LEAST + 1, -65536, -256, -65, -64, -63, -36, -3, -2, -1};
        for (int after : low) {
            due("after " + after, s.next(0, after), 0);
        }
        int[] high = {35, 36, 37, 62, 63, 64, 65, 127, 128, 256, 65536, Build.GREATEST - 1, Build.GREATEST};
        for (int after : high) {
            due("after " + after, s.next(0, after), -2);
        }
    }

    private static void nextBadRelation() {
        StratifiedRules s = allGiven(7);
        for (int bad : Build.BAD_RELATIONS) {
            due("relation " + bad, s.next(bad, -1), -1);
        }
        due("relation 0 is good", s.next(0, -1), -2);
        due("relation 7 is good", s.next(7, -1), 0);
    }

    private static void nextNone() {
        StratifiedRules s = new StratifiedRules();
        due("of no facts", s.next(4, Build.LEAST), -2);
        s.give(4, 2, 2, 1);
        due("after the only one", s.next(4, 14), -2);
        due("before it", s.next(4, 13), 14);
        s.give(4, 5, 5, 1);
        due("after the last one there can be", s.next(4, 35), -2);
        due("before it", s.next(4, 34), 35);
    }

    private static void fanFromNoneToAll() {
        for (int x = 0; x < 6; x++) {
            StratifiedRules s = new StratifiedRules();
            Build.make(s, 101, 1);
            for (int y = 0; y < 6; y++) {
                due("given", s.fan(0, x), y);
                due("derived", s.fan(1, x), y);
                s.give(0, x, y, 1);
            }
            for (int other = 0; other < 6; other++) {
                due("of " + x + ", asked for " + other, s.fan(1, other), other == x ? 6 : 0);
            }
        }
    }

    private static void fanBadRelation() {
        StratifiedRules s = allGiven(7);
        for (int bad : Build.BAD_RELATIONS) {
            due("relation " + bad, s.fan(bad, 0), -1);
        }
        due("relation 0 is good", s.fan(0, 0), 0);
        due("relation 7 is good", s.fan(7, 0), 6);
    }

    private static void fanBadThing() {
        StratifiedRules s = allGiven(7);
        for (int bad : Build.BAD_THINGS) {
            due("x " + bad, s.fan(7, bad), -2);
        }
        due("0 is good", s.fan(7, 0), 6);
        due("5 is good", s.fan(7, 5), 6);
    }

    private static void waysByNumberOfVariables() {
        StratifiedRules s = allGiven(0);
        int[][] bodies = {{}, {44}, {0}, {33}, {94, 39}, {13}, {20, 2}, {11, 33}, {12, 21, 31}, {1, 23}, {3, 12, 45}};
        int[] ways = {1, 1, 6, 6, 6, 36, 36, 36, 216, 1296, 1296};
        for (int i = 0; i < bodies.length; i++) {
            due("rule", Build.make(s, 744, bodies[i]), i);
        }
        for (int i = 0; i < bodies.length; i++) {
            due("ways of rule " + i, s.ways(i), ways[i]);
        }
    }

    private static void waysFromNoneToAll() {
        StratifiedRules s = new StratifiedRules();
        Build.make(s, 744, 1);
        Build.make(s, 744, 1, Build.not(101));
        for (int fact = 0; fact < 36; fact++) {
            due("plain", s.ways(0), fact);
            due("none negated holds", s.ways(1), fact);
            s.give(0, fact / 6, fact % 6, 1);
        }
        for (int fact = 0; fact < 36; fact++) {
            due("some negated hold", s.ways(1), 36 - fact);
            s.give(1, fact / 6, fact % 6, 1);
        }
        due("all negated hold", s.ways(1), 0);
        due("plain alone", s.ways(0), 36);
    }

    private static void waysOverDerivedFacts() {
        StratifiedRules s = Build.reach(8 + 4);
        Build.make(s, 244, 101);
        Build.make(s, 201, 2, 31, Build.not(101));
        due("over the rule's own facts", s.ways(1), 6);
        due("plain", s.ways(2), 10);
        due("negated", s.ways(3), 6);
        s.drop(0);
        due("plain, when they are gone", s.ways(1), 0);
        due("negated, when they are gone", s.ways(2), 16);
    }

    private static void waysNoSuchRule() {
        for (int length = 0; length <= 14; length++) {
            StratifiedRules s = Build.ruleList(length);
            for (int bad : noSuchRules(length)) {
                due("of " + length + " rule " + bad, s.ways(bad), -1);
            }
            if (length > 0) {
                due("the first is there", s.ways(0), 1);
                due("the last is there", s.ways(length - 1), 1);
            }
        }
    }

    private static void supportsItsHeadAlone() {
        for (int fact = 0; fact < 36; fact++) {
            StratifiedRules s = allGiven(7);
            s.rule(744 + 10 * (fact / 6) + fact % 6);
            for (int asked = 0; asked < 36; asked++) {
                due("head " + fact + ", asked for " + asked, s.supports(0, asked), asked == fact ? 1 : 0);
            }
        }
        StratifiedRules s = new StratifiedRules();
        s.give(0, 1, 4, 1);
        Build.make(s, 210, 1);
        due("things of the variables, in the head's order", s.supports(0, 25), 1);
        due("and not in the other", s.supports(0, 10), 0);
    }

    private static void supportsWhileItsBodyIsMet() {
        StratifiedRules s = new StratifiedRules();
        Build.make(s, 299, 44, Build.not(155));
        due("the plain one does not hold", s.supports(0, 35), 0);
        s.give(0, 0, 0, 1);
        due("the body is met", s.supports(0, 35), 1);
        s.give(1, 1, 1, 1);
        due("the negated one holds", s.supports(0, 35), 0);
        s.give(2, 5, 5, 1);
        due("the head is given", s.supports(0, 35), 0);
    }

    private static void supportsOverDerivedFacts() {
        StratifiedRules s = Build.reach(8 + 4);
        Build.make(s, 299, 148);
        Build.make(s, 388, Build.not(148));
        due("over the rule's own facts", s.supports(1, 4), 1);
        due("plain", s.supports(2, 35), 1);
        due("negated", s.supports(3, 28), 0);
        s.drop(0);
        due("plain, when it is gone", s.supports(1, 35), 0);
        due("negated, when it is gone", s.supports(2, 28), 1);
    }

    private static void supportsNoSuchRule() {
        for (int length = 0; length <= 14; length++) {
            StratifiedRules s = Build.ruleList(length);
            for (int bad : noSuchRules(length)) {
                due("of " + length + " rule " + bad, s.supports(bad, 0), -1);
            }
            if (length > 0) {
                due("the first is there", s.supports(0, 0), 1);
                due("the last is there", s.supports(length - 1, length - 1), 1);
            }
        }
    }

    private static void supportsBadFact() {
        StratifiedRules s = allGiven(0);
        Build.make(s, 101, 1);
        for (int bad : Build.BAD_FACTS) {
            due("fact " + bad, s.supports(0, bad), -2);
        }
        due("0 is good", s.supports(0, 0), 1);
        due("35 is good", s.supports(0, 35), 1);
    }

    private static void weightOfWhatWouldGo() {
        StratifiedRules s = allGiven(0);
        Build.make(s, 101, 1);
        due("all facts of a relation", s.weight(0), 36);
        s.give(0, 5, 5, 0);
        due("one less", s.weight(0), 35);
        s.give(1, 0, 0, 1);
        due("one of them given too", s.weight(0), 34);
        Build.make(s, 110, 1);
        due("the pairs of two things come from the other too", s.weight(0), 0);
    }

    private static void weightOfWhatWouldCome() {
        StratifiedRules s = allGiven(0);
        Build.make(s, 244, Build.not(144));
        Build.make(s, 301, 1, Build.not(144));
        due("all are there", s.size(2) + s.size(3), 37);
        due("a rule that takes them away", s.rule(144), 2);
        due("none is there", s.size(2) + s.size(3), 0);
        due("its fact and all that would come", s.weight(2), 38);
        s.give(1, 0, 0, 1);
        due("its fact is given: nothing would come", s.weight(2), 0);
    }

    /** One fact goes up from relation 0 to 7, in every second step by a negation that it undoes. */
    private static void weightOverAllRelations() {
        StratifiedRules s = new StratifiedRules();
        s.rule(44);
        for (int relation = 1; relation < 8; relation++) {
            int below = 100 * relation - 100 + 44;
            Build.make(s, 100 * relation + 44, relation % 2 == 1 ? below : Build.not(below));
        }
        for (int relation = 0; relation < 8; relation++) {
            due("relation " + relation, s.size(relation), relation / 2 % 2 == 0 ? 1 : 0);
        }
        due("all eight turn", s.weight(0), 8);
        due("all from 1 on", s.weight(1), 7);
        due("2 is not derived now", s.weight(2), 0);
        due("4 and all above", s.weight(4), 4);
        due("the last alone", s.weight(7), 0);
    }

    private static void weightOfNothing() {
        StratifiedRules s = new StratifiedRules();
        Build.make(s, 101, 1);
        due("derives nothing", s.weight(0), 0);
        s.give(0, 1, 2, 1);
        due("derives one", s.weight(0), 1);
        Build.make(s, 101, 1);
        due("another derives it too", s.weight(0), 0);
        due("and that one too", s.weight(1), 0);
        s.drop(1);
        s.give(1, 1, 2, 1);
        due("given too", s.weight(0), 0);
    }

    private static void weightNoSuchRule() {
        for (int length = 0; length <= 14; length++) {
            StratifiedRules s = Build.ruleList(length);
            for (int bad : noSuchRules(length)) {
                due("of " + length + " rule " + bad, s.weight(bad), -1);
            }
            if (length > 0) {
                due("the first is there", s.weight(0), 1);
                due("the last is there", s.weight(length - 1), 1);
            }
        }
    }

    private static void withinFromNoneToAll() {
        StratifiedRules s = new StratifiedRules();
        due("none in none", s.within(0, 7), 1);
        due("itself, none", s.within(0, 0), 1);
        for (int fact = 0; fact < 36; fact++) {
            s.give(0, fact / 6, fact % 6, 1);
            due("one more than the other, " + fact, s.within(0, 7), 0);
            due("one less, " + fact, s.within(7, 0), 1);
            s.give(7, fact / 6, fact % 6, 1);
            due("the same, " + fact, s.within(0, 7), 1);
        }
        due("itself, all", s.within(0, 0), 1);
        due("all in none", s.within(0, 1), 0);
        due("none in all", s.within(1, 0), 1);
    }

    private static void withinLooksAtWhatHolds() {
        StratifiedRules s = new StratifiedRules();
        s.rule(99);
        due("derived, not in none", s.within(0, 1), 0);
        s.rule(199);
        due("derived in derived", s.within(0, 1), 1);
        s.give(0, 5, 5, 1);
        due("given in derived", s.within(0, 1), 1);
        s.give(1, 0, 0, 1);
        due("given and derived, not in given", s.within(1, 0), 0);
    }

    private static void withinBadRelation() {
        StratifiedRules s = allGiven(7);
        for (int bad : Build.BAD_RELATIONS) {
            due("r " + bad, s.within(bad, 7), -1);
            due("s " + bad, s.within(7, bad), -1);
            due("s " + bad + ", r has no facts", s.within(0, bad), -1);
            due("both " + bad, s.within(bad, bad), -1);
        }
        due("0 in 7", s.within(0, 7), 1);
        due("7 in 0", s.within(7, 0), 0);
    }
}
