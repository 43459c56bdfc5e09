import java.util.ArrayList;
import java.util.List;

/**
 * Long runs of calls, the same ones every time, each answer compared with that of a plain model.
 * The model follows the document's words (all 0 at first, raised by one until nothing must be).
 */
public final class ModelTest {
    private static final int RUNS = 300;
    private static final int CALLS = 512;

    private record Premise(int claim, boolean negated) {
        boolean fits(int head) {
            return negated ? claim / 4 < head / 4 : claim / 4 <= head / 4;
        }
    }

    private record Rule(int head, int strength, List<Premise> premises) {
        int yield(int[] certainties) {
            int m = 100;
            for (Premise p : premises) {
                int value = certainties[p.claim];
                m = Math.min(m, p.negated ? 100 - value : value);
            }
            return m * strength / 100;
        }
    }

    private static final class Model {
        final List<Rule> rules = new ArrayList<>();
        final List<Premise> draft = new ArrayList<>();
        final int[] observed = new int[16];

        static boolean good(int claim) {
            return 0 <= claim && claim <= 15;
        }

        boolean has(int rule) {
            return 0 <= rule && rule < rules.size();
        }

        static int[] certainties(List<Rule> rules, int[] observed) {
            int[] result = new int[16];
            for (int level = 0; level < 4; level++) {
                boolean raised = true;
                while (raised) {
                    raised = false;
                    for (int c = 4 * level; c < 4 * level + 4; c++) {
                        int due = observed[c];
                        for (Rule r : rules) {
                            if (r.head == c) {
                                due = Math.max(due, r.yield(result));
                            }
                        }
                        if (result[c] < due) {
                            result[c]++;
                            raised = true;
                        }
                    }
                }
            }
            return result;
        }

        int[] now() {
            return certainties(rules, observed);
        }

        int[] assuming(int claim, int value) {
            int[] other = observed.clone();
            other[claim] = value;
            return certainties(rules, other);
        }

        int[] lacking(int rule) {
            List<Rule> fewer = new ArrayList<>(rules);
            fewer.remove(rule);
            return certainties(fewer, observed);
        }

        static int differences(int[] a, int[] b) {
            int count = 0;
            for (int c = 0; c < 16; c++) {
                count += a[c] != b[c] ? 1 : 0;
            }
            return count;
        }

        int premise(int claim, int negated) {
            if (!good(claim)) return -1;
            if (draft.size() == 3) return -2;
            draft.add(new Premise(claim, negated != 0));
            return draft.size();
        }

        int clear() {
            int had = draft.size();
            draft.clear();
            return had;
        }

        int rule(int head, int strength) {
            if (!good(head)) return -1;
            if (strength < 1 || strength > 100) return -2;
            if (!draft.stream().allMatch(p -> p.fits(head))) return -3;
            if (rules.size() == 20) return -4;
            rules.add(new Rule(head, strength, List.copyOf(draft)));
            draft.clear();
            return rules.size() - 1;
        }

        int remove(int rule) {
            if (!has(rule)) return -1;
            rules.remove(rule);
            return rules.size();
        }

        int strengthen(int rule, int strength) {
            if (!has(rule)) return -1;
            if (strength < 1 || strength > 100) return -2;
            Rule before = rules.get(rule);
            rules.set(rule, new Rule(before.head, strength, before.premises));
            return before.strength;
        }

        int observe(int claim, int certainty) {
            if (!good(claim)) return -1;
            if (certainty < 0 || certainty > 100) return -2;
            int before = observed[claim];
            observed[claim] = certainty;
            return before;
        }

        int whatIf(int claim, int other, int value) {
            if (!good(claim) || !good(other)) return -1;
            if (value < 0 || value > 100) return -2;
            return assuming(other, value)[claim];
        }

        int without(int claim, int rule) {
            if (!good(claim)) return -1;
            if (!has(rule)) return -2;
            return lacking(rule)[claim];
        }

        int supporter(int claim) {
            if (!good(claim)) return -1;
            int[] now = now();
            for (int r = 0; r < rules.size(); r++) {
                int yield = rules.get(r).yield(now);
                if (rules.get(r).head == claim && yield > 0 && yield == now[claim]) return r;
            }
            return -2;
        }

        int atLeast(int bound) {
            int count = 0;
            for (int value : now()) {
                count += value >= bound ? 1 : 0;
            }
            return count;
        }

        int strongest(int first, int last) {
            if (!good(first) || !good(last)) return -1;
            if (first > last) return -2;
            int[] now = now();
            int best = last;
            for (int c = last; c >= first; c--) {
                best = now[c] >= now[best] ? c : best;
            }
            return best;
        }

        int essential() {
            int[] now = now();
            int count = 0;
            for (int r = 0; r < rules.size(); r++) {
                count += differences(now, lacking(r)) > 0 ? 1 : 0;
            }
            return count;
        }
    }

    private static int wrong = 0;
    private static long seed = 20261115;

    /** A number 0 .. bound - 1 of a fixed sequence, so that every run of the test is the same. */
    private static int next(int bound) {
        seed = seed * 6364136223846793005L + 1442695040888963407L;
        return (int) ((seed >>> 33) % bound);
    }

    private static int rarelyWild(int usual) {
        int[] wild = {-1, 16, 20, 101, Integer.MIN_VALUE, Integer.MAX_VALUE};
        return next(25) == 0 ? wild[next(wild.length)] : usual;
    }

    private static int someClaim(int claims) {
        return rarelyWild(next(claims));
    }

    private static int someRule(Model m) {
        return rarelyWild(next(m.rules.size() + 1));
    }

    private static int somePercentage() {
        return rarelyWild(next(4) == 0 ? 100 : next(101));
    }

    private static void due(String call, int got, int want) {
        if (got != want) {
            wrong++;
            System.out.println(call + " answered " + got + ", due is " + want);
        }
    }

    public static void main(String[] args) {
        for (int run = 0; run < RUNS && wrong == 0; run++) {
            CertaintyChainer x = new CertaintyChainer();
            Model m = new Model();
            // Few claims make cycles and rivals frequent; few removals make the list run full.
            int claims = 4 * (1 + run % 4);
            int removals = run % 3;
            for (int i = 0; i < CALLS && wrong == 0; i++) {
                String at = "run " + run + ", call " + i + ": ";
                if (next(2) == 0) {
                    change(at, x, m, claims, removals);
                } else {
                    ask(at, x, m, claims);
                }
            }
        }
        System.out.println(wrong == 0 ? "all answers are the model's" : "the program differs from the model");
        if (wrong != 0) {
            System.exit(1);
        }
    }

    private static void change(String at, CertaintyChainer x, Model m, int claims, int removals) {
        int c = someClaim(claims);
        int v = somePercentage();
        int r = someRule(m);
        int kind = next(20 + removals);
        if (kind < 7) {
            int negated = next(3) == 0 ? 1 - next(4) : 0;
            due(at + "premise(" + c + ", " + negated + ")", x.premise(c, negated), m.premise(c, negated));
        } else if (kind < 14) {
            due(at + "rule(" + c + ", " + v + ")", x.rule(c, v), m.rule(c, v));
        } else if (kind < 17) {
            int less = next(3) == 0 ? 0 : v;
            due(at + "observe(" + c + ", " + less + ")", x.observe(c, less), m.observe(c, less));
        } else if (kind < 18) {
            due(at + "clear()", x.clear(), m.clear());
        } else if (kind < 20) {
            due(at + "strengthen(" + r + ", " + v + ")", x.strengthen(r, v), m.strengthen(r, v));
        } else {
            due(at + "remove(" + r + ")", x.remove(r), m.remove(r));
        }
    }

    private static void ask(String at, CertaintyChainer x, Model m, int claims) {
        int c = someClaim(claims);
        int d = someClaim(claims);
        int v = somePercentage();
        int r = someRule(m);
        boolean good = Model.good(c);
        boolean has = m.has(r);
        switch (next(12)) {
            case 0 -> due(at + "rules()", x.rules(), m.rules.size());
            case 1 -> due(at + "headOf(" + r + ")", x.headOf(r), has ? m.rules.get(r).head : -1);
            case 2 -> due(at + "observed(" + c + ")", x.observed(c), good ? m.observed[c] : -1);
            case 3 -> due(at + "certainty(" + c + ")", x.certainty(c), good ? m.now()[c] : -1);
            case 4 -> due(at + "whatIf(" + c + ", " + d + ", " + v + ")", x.whatIf(c, d, v), m.whatIf(c, d, v));
            case 5 -> due(at + "without(" + c + ", " + r + ")", x.without(c, r), m.without(c, r));
            case 6 -> due(at + "supporter(" + c + ")", x.supporter(c), m.supporter(c));
            case 7 -> due(at + "yield(" + r + ")", x.yield(r), has ? m.rules.get(r).yield(m.now()) : -1);
            case 8 -> due(at + "atLeast(" + v + ")", x.atLeast(v), m.atLeast(v));
            case 9 -> due(at + "strongest(" + c + ", " + d + ")", x.strongest(c, d), m.strongest(c, d));
            case 10 -> due(at + "essential()", x.essential(), m.essential());
            default -> due(at + "influence(" + c + ")", x.influence(c),
                    good ? Model.differences(m.now(), m.assuming(c, 0)) : -1);
        }
    }
}
