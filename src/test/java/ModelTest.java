/** Long mixed runs, the same each time, whose every answer is compared with PlainModel's. */
public final class ModelTest {
    private static final int RUNS = 120;
    private static final int CALLS = 512;
    private static final int MOST_WRONG = 20;
    private static final int[] ODD_NUMBERS = {-1, -2, 6, 8, 14, 36, 48, 800, Integer.MIN_VALUE, Integer.MAX_VALUE};

    private final StratifiedRules program = new StratifiedRules();
    private final PlainModel model = new PlainModel();
    private final int run;
    private long state;

    private ModelTest(int run) {
        this.run = run;
        this.state = 977L * run + 1;
    }

    public static void main(String[] args) {
        for (int run = 0; run < RUNS && Due.wrongSoFar() < MOST_WRONG; run++) {
            ModelTest test = new ModelTest(run);
            for (int call = 0; call < CALLS && Due.wrongSoFar() < MOST_WRONG; call++) {
                test.oneCall(call);
            }
        }
        Due.end();
    }

    /** A number 0 .. end - 1 from a fixed sequence. */
    private int pick(int end) {
        state = state * 6364136223846793005L + 1442695040888963407L;
        return (int) ((state >>> 33) % end);
    }

    /** Now and then a number that is out of every range. */
    private int mostly(int end) {
        return pick(40) == 0 ? ODD_NUMBERS[pick(ODD_NUMBERS.length)] : pick(end);
    }

    private int term() {
        return pick(6) == 0 ? 4 + pick(6) : pick(run % 3 + 2);
    }

    /** Atoms of low relations more often, so that many drafts fit some head. */
    private int atom(boolean high) {
        if (pick(40) == 0) {
            return mostly(800);
        }
        int relation = high ? Math.max(pick(8), pick(8)) : Math.min(pick(8), pick(8));
        return 100 * relation + 10 * term() + term();
    }

    private int ruleNumber() {
        return mostly(model.rules() + 1);
    }

    private void oneCall(int call) {
        int kind = pick(run % 2 == 0 ? 30 : 24);
        if (kind < 12) {
            oneChange(call, kind);
        } else {
            oneQuestion(call, kind);
        }
    }

    private void oneChange(int call, int kind) {
        switch (kind) {
            case 0, 1 -> {
                int r = mostly(8), x = mostly(6), y = mostly(6), flag = pick(3) - 1;
                due(call, "give " + r + " " + x + " " + y + " " + flag,
                        program.give(r, x, y, flag), model.give(r, x, y, flag));
            }
            case 2 -> {
                int r = mostly(8), x = mostly(6), plan = pick(4) == 0 ? mostly(60) : 8 * pick(6) + 1 + pick(3);
                due(call, "chain " + r + " " + x + " " + plan, program.chain(r, x, plan), model.chain(r, x, plan));
            }
            case 3, 4, 5, 6 -> {
                int atom = atom(false), negated = pick(4) == 0 ? pick(5) - 2 : 0;
                due(call, "body " + atom + " " + negated, program.body(atom, negated), model.body(atom, negated));
            }
            case 7, 8, 9 -> {
                int head = atom(true);
                due(call, "rule " + head, program.rule(head), model.rule(head));
            }
            case 10 -> {
                if (pick(3) == 0) {
                    due(call, "blank", program.blank(), model.blank());
                }
            }
            default -> {
                if (pick(model.rules() > 9 ? 2 : 6) == 0) {
                    int rule = ruleNumber();
                    due(call, "drop " + rule, program.drop(rule), model.drop(rule));
                }
            }
        }
    }

    private void oneQuestion(int call, int kind) {
        int r = mostly(8), x = mostly(6), y = mostly(6), s = mostly(8), fact = mostly(36), rule = ruleNumber();
        switch (kind) {
            case 12 -> due(call, "rules", program.rules(), model.rules());
            case 13 -> due(call, "given " + r + " " + x + " " + y, program.given(r, x, y), model.given(r, x, y));
            case 14, 15 -> due(call, "holds " + r + " " + x + " " + y, program.holds(r, x, y), model.holds(r, x, y));
            case 16 -> due(call, "next " + r + " " + fact, program.next(r, fact), model.next(r, fact));
            case 17 -> due(call, "fan " + r + " " + x, program.fan(r, x), model.fan(r, x));
            case 18, 19 -> due(call, "ways " + rule, program.ways(rule), model.ways(rule));
            case 20 -> due(call, "supports " + rule + " " + fact,
                    program.supports(rule, fact), model.supports(rule, fact));
            case 21 -> due(call, "weight " + rule, program.weight(rule), model.weight(rule));
            case 22 -> due(call, "within " + r + " " + s, program.within(r, s), model.within(r, s));
            default -> due(call, "size " + r, program.size(r), model.size(r));
        }
    }

    private void due(int call, String what, int got, int want) {
        Due.due("run " + run + ", call " + call + ": " + what, got, want);
    }
}
