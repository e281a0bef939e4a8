import java.util.ArrayList;
import java.util.Arrays;
import java.util.List;

/**
 * A second account of the document, written another way than the class: factors
 * in a list, evidence as values, and each sum by its own condition.
 */
final class Model {
    private static final class Factor {
        final int[] variables;
        final int[] weights;

        Factor(int... variables) {
            this.variables = variables;
            weights = new int[1 << variables.length];
            Arrays.fill(weights, 1);
        }

        int weightUnder(int[] values) {
            int way = 0;
            for (int i = variables.length - 1; i >= 0; i--) {
                way = way * 2 + values[variables[i]];
            }
            return weights[way];
        }
    }

    private final List<Factor> factors = new ArrayList<>();
    private final int[] evidence = {-1, -1, -1, -1, -1, -1, -1};
    private boolean summedUp = false;
    private long total;
    private final long[] share = new long[7];
    private final long[][] alike = new long[7][7];
    private final long[][] both = new long[7][7];
    private long best;
    private int bestAssignment;
    private int possible;

    int factors() {
        return factors.size();
    }

    int ways(int factor) {
        return factors.get(factor).weights.length;
    }

    int factor(int x, int y, int z) {
        List<Integer> named = new ArrayList<>();
        named.add(x);
        if (y != -1) {
            named.add(y);
            if (z != -1) {
                named.add(z);
            }
        }
        if (named.stream().anyMatch(v -> v < 0 || v > 6)) {
            return -1;
        }
        if (named.stream().distinct().count() < named.size()) {
            return -1;
        }
        if (factors.size() == 7) {
            return -4;
        }
        summedUp = false;
        factors.add(new Factor(named.stream().mapToInt(v -> v).toArray()));
        return factors.size() - 1;
    }

    int weight(int factor, int way, int weight) {
        if (factor < 0 || factor >= factors.size()) {
            return -2;
        }
        int[] weights = factors.get(factor).weights;
        if (way < 0 || way >= weights.length) {
            return -5;
        }
        if (weight < 0 || weight > 9) {
            return -3;
        }
        summedUp = false;
        int old = weights[way];
        weights[way] = weight;
        return old;
    }

    int evidence(int variable, int value) {
        if (variable < 0 || variable > 6) {
            return -1;
        }
        if (value < -1 || value > 1) {
            return -5;
        }
        summedUp = false;
        int old = evidence[variable];
        evidence[variable] = value;
        return old;
    }

    int drop() {
        if (factors.isEmpty()) {
            return -2;
        }
        summedUp = false;
        factors.remove(factors.size() - 1);
        return factors.size();
    }

    long total() {
        sumUp();
        return total;
    }

    long share(int variable) {
        sumUp();
        return areVariables(variable, variable) ? share[variable] : 0;
    }

    long alike(int a, int b) {
        sumUp();
        return areVariables(a, b) ? alike[a][b] : 0;
    }

    long best() {
        sumUp();
        return best;
    }

    int bestAssignment() {
        sumUp();
        return bestAssignment;
    }

    int possible() {
        sumUp();
        return possible;
    }

    boolean independent(int a, int b) {
        sumUp();
        return !areVariables(a, b)
            || Math.multiplyExact(total, both[a][b]) == Math.multiplyExact(share[a], share[b]);
    }

    private static boolean areVariables(int a, int b) {
        return a >= 0 && a <= 6 && b >= 0 && b <= 6;
    }

    private void sumUp() {
        if (summedUp) {
            return;
        }
        summedUp = true;
        total = 0;
        best = -1;
        bestAssignment = -1;
        possible = 0;
        for (int a = 0; a < 7; a++) {
            share[a] = 0;
            Arrays.fill(alike[a], 0);
            Arrays.fill(both[a], 0);
        }
        // Downwards, with ties going to the later: the smallest mask wins.
        for (int mask = 127; mask >= 0; mask--) {
            int[] values = new int[7];
            boolean allowed = true;
            for (int v = 0; v < 7; v++) {
                values[v] = mask / (1 << v) % 2;
                allowed = allowed && (evidence[v] == -1 || evidence[v] == values[v]);
            }
            if (allowed) {
                count(mask, values);
            }
        }
    }

    private void count(int mask, int[] values) {
        long worth = 1;
        for (Factor factor : factors) {
            worth *= factor.weightUnder(values);
        }
        total += worth;
        possible += worth == 0 ? 0 : 1;
        if (worth >= best) {
            best = worth;
            bestAssignment = mask;
        }
        for (int a = 0; a < 7; a++) {
            share[a] += worth * values[a];
            for (int b = 0; b < 7; b++) {
                alike[a][b] += values[a] == values[b] ? worth : 0;
                both[a][b] += worth * values[a] * values[b];
            }
        }
    }
}
