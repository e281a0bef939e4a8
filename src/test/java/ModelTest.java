import java.util.ArrayList;
import java.util.List;

/**
 * Long runs of calls, made by a fixed rule, against a second account of the
 * document that is written another way: factors in a list, evidence as values,
 * and each sum by its own condition.
 */
public final class ModelTest {
    private static final int RUNS = 400;
    private static final int CALLS = 512;

    private static final class Factor {
        final int[] variables;
        final int[] weights;

        Factor(int... variables) {
            this.variables = variables;
            weights = new int[1 << variables.length];
            java.util.Arrays.fill(weights, 1);
        }

        int weightUnder(int[] values) {
            int way = 0;
            for (int i = variables.length - 1; i >= 0; i--) {
                way = way * 2 + values[variables[i]];
            }
            return weights[way];
        }
    }

    private static final class Model {
        final List<Factor> factors = new ArrayList<>();
        final int[] evidence = {-1, -1, -1, -1, -1, -1, -1};
        long total;
        final long[] share = new long[7];
        final long[][] alike = new long[7][7];
        final long[][] both = new long[7][7];
        long best;
        int bestAssignment;
        int possible;

        int factor(int x, int y, int z) {
            List<Integer> named = new ArrayList<>();
            named.add(x);
            if (y != -1) {
                named.add(y);
                if (z != -1) {
                    named.add(z);
                }
            }
            if (named.stream().anyMatch(v -> v < 0 || v > 6)) {
                return -1;
            }
            if (named.stream().distinct().count() < named.size()) {
                return -1;
            }
            if (factors.size() == 7) {
                return -4;
            }
            factors.add(new Factor(named.stream().mapToInt(v -> v).toArray()));
            return factors.size() - 1;
        }

        int weight(int factor, int way, int weight) {
            if (factor < 0 || factor >= factors.size()) {
                return -2;
            }
            int[] weights = factors.get(factor).weights;
            if (way < 0 || way >= weights.length) {
                return -5;
            }
            if (weight < 0 || weight > 9) {
                return -3;
            }
            int old = weights[way];
            weights[way] = weight;
            return old;
        }

        int evidence(int variable, int value) {
            if (variable < 0 || variable > 6) {
                return -1;
            }
            if (value < -1 || value > 1) {
                return -5;
            }
            int old = evidence[variable];
            evidence[variable] = value;
            return old;
        }

        int drop() {
            if (factors.isEmpty()) {
                return -2;
            }
            factors.remove(factors.size() - 1);
            return factors.size();
        }

        void sumUp() {
            total = 0;
            best = -1;
            bestAssignment = -1;
            possible = 0;
            for (int a = 0; a < 7; a++) {
                share[a] = 0;
                for (int b = 0; b < 7; b++) {
                    alike[a][b] = 0;
                    both[a][b] = 0;
                }
            }
            // Downwards, with ties going to the later: the smallest mask wins.
            for (int mask = 127; mask >= 0; mask--) {
                int[] values = new int[7];
                boolean allowed = true;
                for (int v = 0; v < 7; v++) {
                    values[v] = mask / (1 << v) % 2;
                    allowed = allowed && (evidence[v] == -1 || evidence[v] == values[v]);
                }
                if (allowed) {
                    count(mask, values);
                }
            }
        }

        private void count(int mask, int[] values) {
            long worth = 1;
            for (Factor factor : factors) {
                worth *= factor.weightUnder(values);
            }
            total += worth;
            possible += worth == 0 ? 0 : 1;
            if (worth >= best) {
                best = worth;
                bestAssignment = mask;
            }
            for (int a = 0; a < 7; a++) {
                share[a] += worth * values[a];
                for (int b = 0; b < 7; b++) {
                    alike[a][b] += values[a] == values[b] ? worth : 0;
                    both[a][b] += worth * values[a] * values[b];
                }
            }
        }

        boolean known(int a, int b) {
            return a >= 0 && a <= 6 && b >= 0 && b <= 6;
        }

        boolean independent(int a, int b) {
            return !known(a, b)
                || Math.multiplyExact(total, both[a][b]) == Math.multiplyExact(share[a], share[b]);
        }
    }

    private final Check check;
    private final int run;
    private final FactorGraph graph = new FactorGraph();
    private final Model model = new Model();
    private long state;

    private ModelTest(Check check, int run) {
        this.check = check;
        this.run = run;
        state = run * 7919L + 1;
    }

    public static void main(String[] args) {
        Check check = new Check();
        for (int run = 0; run < RUNS; run++) {
            new ModelTest(check, run).calls();
        }
        check.end();
    }

    /** The next number of a fixed sequence, from low to high. */
    private int next(int low, int high) {
        state = state * 6364136223846793005L + 1442695040888963407L;
        return low + (int) ((state >>> 33) % (high - low + 1));
    }

    /** A variable, and now and then a number that is none. */
    private int variable() {
        return next(0, 9) == 0 ? next(-3, 9) : next(0, 6);
    }

    private int weightValue() {
        // Some runs keep to high weights, to come near the greatest sums.
        if (next(0, 19) == 0) {
            return next(-2, 12);
        }
        return run % 3 == 0 ? next(7, 9) : next(0, 9);
    }

    private void calls() {
        for (int call = 0; call < CALLS; call++) {
            int kind = next(0, 99);
            if (kind < 8) {
                factor(variable(), next(0, 3) == 0 ? -1 : variable(), next(0, 2) == 0 ? -1 : variable());
            } else if (kind < 45) {
                weight(next(0, 15) == 0 ? next(-2, 8) : next(0, 6), next(0, 15) == 0 ? next(-2, 9) : next(0, 7), weightValue());
            } else if (kind < 55) {
                evidence(variable(), next(0, 9) == 0 ? next(-3, 3) : next(-1, 1));
            } else if (kind < 59) {
                due("drop()", graph.drop(), model.drop());
            } else {
                model.sumUp();
                question(kind % 7, variable(), variable());
            }
        }
    }

    private void factor(int x, int y, int z) {
        due("factor(" + x + ", " + y + ", " + z + ")", graph.factor(x, y, z), model.factor(x, y, z));
    }

    private void weight(int f, int way, int w) {
        due("weight(" + f + ", " + way + ", " + w + ")", graph.weight(f, way, w), model.weight(f, way, w));
    }

    private void evidence(int v, int value) {
        due("evidence(" + v + ", " + value + ")", graph.evidence(v, value), model.evidence(v, value));
    }

    private void question(int kind, int a, int b) {
        switch (kind) {
            case 0 -> due("total()", graph.total(), model.total);
            case 1 -> due("share(" + a + ")", graph.share(a), model.known(a, a) ? model.share[a] : 0);
            case 2 -> due("alike(" + a + ", " + b + ")", graph.alike(a, b), model.known(a, b) ? model.alike[a][b] : 0);
            case 3 -> due("best()", graph.best(), model.best);
            case 4 -> due("bestAssignment()", graph.bestAssignment(), model.bestAssignment);
            case 5 -> due("possible()", graph.possible(), model.possible);
            default -> check.due("run " + run + ": independent(" + a + ", " + b + ")", graph.independent(a, b), model.independent(a, b));
        }
    }

    private void due(String call, long got, long want) {
        check.due("run " + run + ": " + call, got, want);
    }
}
