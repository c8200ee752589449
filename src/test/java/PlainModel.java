import java.util.ArrayList;
import java.util.HashSet;
import java.util.List;
import java.util.Set;

/** The document told again as plainly as the Java library allows, for ModelTest to compare with. */
final class PlainModel {
    private record Atom(int relation, int first, int second, boolean negated) {
        static Atom of(int number, boolean negated) {
            return new Atom(number / 100, number / 10 % 10, number % 10, negated);
        }

        int layer() {
            return relation / 2;
        }

        Set<Integer> variables() {
            Set<Integer> all = new HashSet<>(List.of(first));
            all.add(second);
            all.removeIf(term -> term > 3);
            return all;
        }

        Fact with(List<Integer> things) {
            return new Fact(relation, thing(first, things), thing(second, things));
        }

        private static int thing(int term, List<Integer> things) {
            return term > 3 ? term - 4 : things.get(term);
        }
    }

    private record Fact(int relation, int x, int y) {
    }

    private record Rule(Atom head, List<Atom> body) {
    }

    private final Set<Fact> givenFacts = new HashSet<>();
    private final List<Atom> draft = new ArrayList<>();
    private final List<Rule> ruleList = new ArrayList<>();
    private Set<Fact> known;

    private static boolean good(int number, int end) {
        return 0 <= number && number < end;
    }

    int give(int relation, int x, int y, int flag) {
        int before = given(relation, x, y);
        if (before >= 0) {
            Fact fact = new Fact(relation, x, y);
            boolean changed = flag != 0 ? givenFacts.add(fact) : givenFacts.remove(fact);
            known = changed ? null : known;
        }
        return before;
    }

    int chain(int relation, int x, int plan) {
        if (!good(relation, 8)) {
            return -1;
        }
        if (!good(x, 6)) {
            return -2;
        }
        if (!good(plan, 48)) {
            return -3;
        }
        if (plan % 8 == 0 || plan % 8 == 7) {
            return -4;
        }
        for (int i = x; i < x + plan % 8; i++) {
            givenFacts.add(new Fact(relation, i % 6, (i + plan / 8) % 6));
        }
        known = null;
        return (int) givenFacts.stream().filter(fact -> fact.relation == relation).count();
    }

    int body(int atom, int negated) {
        if (!good(atom, 800)) {
            return -1;
        }
        if (draft.size() == 3) {
            return -2;
        }
        draft.add(Atom.of(atom, negated != 0));
        return draft.size();
    }

    int rule(int head) {
        if (!good(head, 800)) {
            return -1;
        }
        if (ruleList.size() == 14) {
            return -2;
        }
        Atom top = Atom.of(head, false);
        Set<Integer> bound = new HashSet<>();
        Set<Integer> needed = new HashSet<>(top.variables());
        for (Atom atom : draft) {
            if (atom.negated ? atom.layer() >= top.layer() : atom.layer() > top.layer()) {
                return -3;
            }
            (atom.negated ? needed : bound).addAll(atom.variables());
        }
        if (!bound.containsAll(needed)) {
            return -4;
        }
        ruleList.add(new Rule(top, List.copyOf(draft)));
        draft.clear();
        known = null;
        return ruleList.size() - 1;
    }

    int blank() {
        int before = draft.size();
        draft.clear();
        return before;
    }

    int drop(int rule) {
        if (!good(rule, ruleList.size())) {
            return -1;
        }
        ruleList.remove(rule);
        known = null;
        return ruleList.size();
    }

    int rules() {
        return ruleList.size();
    }

    int given(int relation, int x, int y) {
        return lookUp(givenFacts, relation, x, y);
    }

    int holds(int relation, int x, int y) {
        return lookUp(held(), relation, x, y);
    }

    private static int lookUp(Set<Fact> facts, int relation, int x, int y) {
        if (!good(relation, 8)) {
            return -1;
        }
        if (!good(x, 6) || !good(y, 6)) {
            return -2;
        }
        return facts.contains(new Fact(relation, x, y)) ? 1 : 0;
    }

    int size(int relation) {
        return good(relation, 8) ? (int) held().stream().filter(fact -> fact.relation == relation).count() : -1;
    }

    int next(int relation, int after) {
        if (!good(relation, 8)) {
            return -1;
        }
        return held().stream().filter(fact -> fact.relation == relation).mapToInt(fact -> 6 * fact.x + fact.y)
                .filter(number -> number > after).min().orElse(-2);
    }

    int fan(int relation, int x) {
        if (!good(relation, 8)) {
            return -1;
        }
        if (!good(x, 6)) {
            return -2;
        }
        return (int) held().stream().filter(fact -> fact.relation == relation && fact.x == x).count();
    }

    int ways(int rule) {
        return good(rule, ruleList.size()) ? waysOf(ruleList.get(rule), held()).size() : -1;
    }

    int supports(int rule, int fact) {
        if (!good(rule, ruleList.size())) {
            return -1;
        }
        if (!good(fact, 36)) {
            return -2;
        }
        Atom head = ruleList.get(rule).head;
        Fact wanted = new Fact(head.relation, fact / 6, fact % 6);
        return waysOf(ruleList.get(rule), held()).stream().anyMatch(way -> head.with(way).equals(wanted)) ? 1 : 0;
    }

    int weight(int rule) {
        if (!good(rule, ruleList.size())) {
            return -1;
        }
        List<Rule> others = new ArrayList<>(ruleList);
        others.remove(rule);
        Set<Fact> without = whatHolds(others);
        Set<Fact> both = new HashSet<>(held());
        both.retainAll(without);
        return held().size() + without.size() - 2 * both.size();
    }

    int within(int r, int s) {
        if (!good(r, 8) || !good(s, 8)) {
            return -1;
        }
        return held().stream().filter(fact -> fact.relation == r)
                .allMatch(fact -> held().contains(new Fact(s, fact.x, fact.y))) ? 1 : 0;
    }

    private Set<Fact> held() {
        if (known == null) {
            known = whatHolds(ruleList);
        }
        return known;
    }

    private Set<Fact> whatHolds(List<Rule> list) {
        Set<Fact> facts = new HashSet<>(givenFacts);
        for (int layer = 0; layer < 4; layer++) {
            int before;
            do {
                before = facts.size();
                for (Rule rule : list) {
                    if (rule.head.layer() == layer) {
                        waysOf(rule, facts).forEach(way -> facts.add(rule.head.with(way)));
                    }
                }
            } while (facts.size() > before);
        }
        return facts;
    }

    /** Joins the plain atoms one after another, then sifts by the negated ones; -1 is a variable without a thing. */
    private static Set<List<Integer>> waysOf(Rule rule, Set<Fact> facts) {
        Set<List<Integer>> ways = new HashSet<>();
        ways.add(List.of(-1, -1, -1, -1));
        for (Atom atom : rule.body) {
            if (!atom.negated) {
                ways = join(ways, atom, facts);
            }
        }
        ways.removeIf(way -> rule.body.stream().anyMatch(atom -> atom.negated && facts.contains(atom.with(way))));
        return ways;
    }

    private static Set<List<Integer>> join(Set<List<Integer>> ways, Atom atom, Set<Fact> facts) {
        Set<List<Integer>> joined = new HashSet<>();
        for (Fact fact : facts) {
            if (fact.relation == atom.relation) {
                for (List<Integer> way : ways) {
                    List<Integer> longer = new ArrayList<>(way);
                    if (binds(longer, atom.first, fact.x) && binds(longer, atom.second, fact.y)) {
                        joined.add(longer);
                    }
                }
            }
        }
        return joined;
    }

    private static boolean binds(List<Integer> way, int term, int thing) {
        if (term > 3) {
            return term - 4 == thing;
        }
        if (way.get(term) == -1) {
            way.set(term, thing);
        }
        return way.get(term) == thing;
    }
}
