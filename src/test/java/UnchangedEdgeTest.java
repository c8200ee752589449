import java.util.List;
import java.util.Map;
import java.util.TreeMap;
import java.util.function.Supplier;
import java.util.function.ToIntFunction;

/**
 * "No question changes anything" and "A refused call changes nothing": after such a call an object answers as one
 * that never had it. An object takes 512 calls, so each part of the state is looked at on objects of its own.
 */
public final class UnchangedEdgeTest {
    private interface Look {
        int[] at(StratifiedRules s);
    }

    private static final Map<String, Supplier<StratifiedRules>> STATES = new TreeMap<>();
    private static final List<Look> LOOKS = List.of(UnchangedEdgeTest::givenFacts, UnchangedEdgeTest::heldFacts,
            UnchangedEdgeTest::counts, s -> supported(s, 0), s -> supported(s, 7), UnchangedEdgeTest::draftAsARule,
            UnchangedEdgeTest::afterAnotherChange);

    public static void main(String[] args) {
        STATES.put("new", StratifiedRules::new);
        STATES.put("busy", UnchangedEdgeTest::busy);
        STATES.put("full", UnchangedEdgeTest::full);
        statesAreAsMeant();
        Due.sentence("A refused call changes nothing: give", UnchangedEdgeTest::refusedGive);
        Due.sentence("A refused call changes nothing: chain", UnchangedEdgeTest::refusedChain);
        Due.sentence("A refused call changes nothing: body", UnchangedEdgeTest::refusedBody);
        Due.sentence("A refused call changes nothing: rule", UnchangedEdgeTest::refusedRule);
        Due.sentence("A refused call changes nothing: drop", UnchangedEdgeTest::refusedDrop);
        Due.sentence("A refused call changes nothing: questions", UnchangedEdgeTest::refusedQuestions);
        Due.sentence("No question changes anything", UnchangedEdgeTest::answeredQuestions);
        Due.end();
    }

    /** Facts and rules in all layers, and a draft of two atoms. */
    private static StratifiedRules busy() {
        StratifiedRules s = Build.reach(8 + 4);
        s.give(1, 5, 0, 1);
        s.give(7, 3, 3, 1);
        Build.make(s, 201, 3, 31, Build.not(101));
        Build.make(s, 402, 1, 12, Build.not(202));
        Build.make(s, 633, 423, Build.not(144));
        Build.make(s, 799, Build.not(544));
        Build.draft(s, 1, Build.not(10));
        return s;
    }

    /** No room for a fact of relation 0, for a rule, or for an atom. */
    private static StratifiedRules full() {
        StratifiedRules s = Build.ruleList(12);
        Build.giveAll(s, 0);
        s.give(3, 4, 4, 1);
        Build.make(s, 401, 1, Build.not(301));
        Build.make(s, 703, 401, 12, 23);
        Build.draft(s, 401, Build.not(301), 12);
        return s;
    }

    /** A rule refused by mistake would leave the tests below with less to look at. */
    private static void statesAreAsMeant() {
        Due.due("busy object's rules", busy().rules(), 6);
        Due.due("busy object's draft", busy().blank(), 2);
        Due.due("full object's rules", full().rules(), 14);
        Due.due("full object's draft", full().blank(), 3);
        Due.due("full object's relation 0", full().size(0), 36);
    }

    private static int[] givenFacts(StratifiedRules s) {
        int[] seen = new int[288];
        for (int i = 0; i < seen.length; i++) {
            seen[i] = s.given(i / 36, i / 6 % 6, i % 6);
        }
        return seen;
    }

    private static int[] heldFacts(StratifiedRules s) {
        int[] seen = new int[288];
        for (int i = 0; i < seen.length; i++) {
            seen[i] = s.holds(i / 36, i / 6 % 6, i % 6);
        }
        return seen;
    }

    private static int[] counts(StratifiedRules s) {
        int[] seen = new int[200];
        int length = 0;
        seen[length++] = s.rules();
        for (int rule = 0; rule < 14; rule++) {
            seen[length++] = s.ways(rule);
            seen[length++] = s.weight(rule);
        }
        for (int relation = 0; relation < 8; relation++) {
            seen[length++] = s.size(relation);
            seen[length++] = s.fan(relation, 4);
            seen[length++] = s.next(relation, 20);
            for (int other = 0; other < 8; other++) {
                seen[length++] = s.within(relation, other);
            }
        }
        seen[length] = s.blank();
        return seen;
    }

    private static int[] supported(StratifiedRules s, int firstRule) {
        int[] seen = new int[252];
        for (int i = 0; i < seen.length; i++) {
            seen[i] = s.supports(firstRule + i / 36, i % 36);
        }
        return seen;
    }

    private static int[] draftAsARule(StratifiedRules s) {
        int[] seen = new int[40];
        seen[0] = s.drop(13);
        seen[1] = s.rule(601);
        seen[2] = s.ways(s.rules() - 1);
        seen[3] = s.size(6);
        for (int fact = 0; fact < 36; fact++) {
            seen[4 + fact] = s.holds(6, fact / 6, fact % 6);
        }
        return seen;
    }

    private static int[] afterAnotherChange(StratifiedRules s) {
        int[] seen = new int[16];
        seen[0] = s.body(44, 1);
        seen[1] = s.drop(0);
        seen[2] = s.give(0, 2, 3, 0);
        seen[3] = s.chain(1, 4, 8 * 3 + 2);
        seen[4] = s.blank();
        seen[5] = s.rule(788);
        for (int relation = 0; relation < 8; relation++) {
            seen[6 + relation] = s.size(relation);
        }
        seen[14] = s.rules();
        seen[15] = s.weight(s.rules() - 1);
        return seen;
    }

    private static void changesNothing(String state, String what, ToIntFunction<StratifiedRules> call) {
        for (int look = 0; look < LOOKS.size(); look++) {
            StratifiedRules s = STATES.get(state).get();
            call.applyAsInt(s);
            int[] seen = LOOKS.get(look).at(s);
            int[] due = LOOKS.get(look).at(STATES.get(state).get());
            for (int i = 0; i < due.length; i++) {
                Due.due(state + " object, " + what + ", look " + look + " place " + i, seen[i], due[i]);
            }
        }
    }

    private static void refused(String state, String what, int answer, ToIntFunction<StratifiedRules> call) {
        Due.due(state + " object, " + what, call.applyAsInt(STATES.get(state).get()), answer);
        changesNothing(state, what, call);
    }

    private static void refusedEverywhere(String what, int answer, ToIntFunction<StratifiedRules> call) {
        for (String state : STATES.keySet()) {
            refused(state, what, answer, call);
        }
    }

    private static void refusedGive() {
        for (int flag = 0; flag < 2; flag++) {
            int f = flag;
            refusedEverywhere("give 8 0 0 " + f, -1, s -> s.give(8, 0, 0, f));
            refusedEverywhere("give -1 3 3 " + f, -1, s -> s.give(-1, 3, 3, f));
            refusedEverywhere("give 0 6 0 " + f, -2, s -> s.give(0, 6, 0, f));
            refusedEverywhere("give 0 0 6 " + f, -2, s -> s.give(0, 0, 6, f));
            refusedEverywhere("give 7 -1 3 " + f, -2, s -> s.give(7, -1, 3, f));
            refusedEverywhere("give 1 1 -1 " + f, -2, s -> s.give(1, 1, -1, f));
        }
    }

    private static void refusedChain() {
        refusedEverywhere("chain 8 0 9", -1, s -> s.chain(8, 0, 9));
        refusedEverywhere("chain -1 0 9", -1, s -> s.chain(-1, 0, 9));
        refusedEverywhere("chain 1 6 9", -2, s -> s.chain(1, 6, 9));
        refusedEverywhere("chain 1 -1 9", -2, s -> s.chain(1, -1, 9));
        refusedEverywhere("chain 1 0 -1", -3, s -> s.chain(1, 0, -1));
        refusedEverywhere("chain 1 0 49", -3, s -> s.chain(1, 0, 49));
        refusedEverywhere("chain 1 0 16", -4, s -> s.chain(1, 0, 16));
        refusedEverywhere("chain 1 0 23", -4, s -> s.chain(1, 0, 23));
    }

    private static void refusedBody() {
        refusedEverywhere("body -1 0", -1, s -> s.body(-1, 0));
        refusedEverywhere("body 800 1", -1, s -> s.body(800, 1));
        refused("full", "body 44 0", -2, s -> s.body(44, 0));
        refused("full", "body 44 1", -2, s -> s.body(44, 1));
    }

    private static void refusedRule() {
        refusedEverywhere("rule -1", -1, s -> s.rule(-1));
        refusedEverywhere("rule 800", -1, s -> s.rule(800));
        refused("full", "rule 744", -2, s -> s.rule(744));
        refused("full", "rule 401", -2, s -> s.rule(401));
        refused("busy", "rule 101", -3, s -> s.rule(101));
        refused("busy", "rule 702", -4, s -> s.rule(702));
        refused("new", "rule 700", -4, s -> s.rule(700));
    }

    private static void refusedDrop() {
        refusedEverywhere("drop -1", -1, s -> s.drop(-1));
        refusedEverywhere("drop 14", -1, s -> s.drop(14));
        refused("new", "drop 0", -1, s -> s.drop(0));
        refused("busy", "drop 6", -1, s -> s.drop(6));
    }

    private static void refusedQuestions() {
        refusedEverywhere("given 8 0 0", -1, s -> s.given(8, 0, 0));
        refusedEverywhere("given 0 6 0", -2, s -> s.given(0, 6, 0));
        refusedEverywhere("holds 8 0 0", -1, s -> s.holds(8, 0, 0));
        refusedEverywhere("holds 0 0 6", -2, s -> s.holds(0, 0, 6));
        refusedEverywhere("size 8", -1, s -> s.size(8));
        refusedEverywhere("next 8 0", -1, s -> s.next(8, 0));
        refusedEverywhere("next 0 35", -2, s -> s.next(0, 35));
        refusedEverywhere("fan 8 0", -1, s -> s.fan(8, 0));
        refusedEverywhere("fan 0 6", -2, s -> s.fan(0, 6));
        refusedEverywhere("ways 14", -1, s -> s.ways(14));
        refusedEverywhere("supports 14 0", -1, s -> s.supports(14, 0));
        refused("busy", "supports 0 36", -2, s -> s.supports(0, 36));
        refusedEverywhere("weight 14", -1, s -> s.weight(14));
        refusedEverywhere("weight -1", -1, s -> s.weight(-1));
        refusedEverywhere("within 8 0", -1, s -> s.within(8, 0));
        refusedEverywhere("within 0 8", -1, s -> s.within(0, 8));
    }

    private static void answeredQuestions() {
        for (String state : STATES.keySet()) {
            changesNothing(state, "rules", StratifiedRules::rules);
            changesNothing(state, "given 0 2 3", s -> s.given(0, 2, 3));
            changesNothing(state, "holds 1 0 4", s -> s.holds(1, 0, 4));
            changesNothing(state, "size 1", s -> s.size(1));
            changesNothing(state, "next 1 5", s -> s.next(1, 5));
            changesNothing(state, "fan 1 2", s -> s.fan(1, 2));
            changesNothing(state, "within 0 1", s -> s.within(0, 1));
            for (int rule = 0; rule < 14; rule++) {
                int r = rule;
                changesNothing(state, "ways " + r, s -> s.ways(r));
                changesNothing(state, "supports " + r + " 8", s -> s.supports(r, 8));
                changesNothing(state, "weight " + r, s -> s.weight(r));
            }
        }
    }
}
