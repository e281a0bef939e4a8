public final class FactorGraph {
    public static final int BAD_VARIABLE = -1;
    public static final int BAD_FACTOR = -2;
    public static final int BAD_WEIGHT = -3;
    public static final int FULL = -4;
    public static final int BAD_VALUE = -5;

    private static final int VARIABLES = 7;
    private static final int ASSIGNMENTS = 128;
    private static final int MAX_FACTORS = 7;
    private static final int MAX_WEIGHT = 9;
    private static final int FACTOR_VARIABLES = 3;
    private static final int FACTOR_WAYS = 8;
    private static final int VARIABLE_PLACES = MAX_FACTORS * FACTOR_VARIABLES;
    private static final int WEIGHT_PLACES = MAX_FACTORS * FACTOR_WAYS;
    private static final int NONE = -1;

    private final int[] variables = new int[VARIABLE_PLACES];
    private final int[] sizes = new int[MAX_FACTORS];
    private final int[] weights = new int[WEIGHT_PLACES];
    private int factorCount;

    // Evidence as two masks, so that one comparison tells whether an
    // assignment is allowed; a free variable's bit is 0 in both.
    private int fixedVariables;
    private int fixedValues;

    public FactorGraph() {
        factorCount = 0;
        fixedVariables = 0;
        fixedValues = 0;
    }

    public int factor(int x, int y, int z) {
        // Without a y the document doesn't look at z, whatever it is.
        int third = y == NONE ? NONE : z;
        if (!isVariable(x) || !isVariableOrNone(y) || !isVariableOrNone(third)) {
            return BAD_VARIABLE;
        }
        if (x == y || x == third || (y != NONE && y == third)) {
            return BAD_VARIABLE;
        }
        if (factorCount >= MAX_FACTORS) {
            return FULL;
        }
        int added = factorCount;
        setVariables(added, x, y, third);
        resetWeights(added);
        factorCount = added + 1;
        return added;
    }

    public int weight(int factor, int way, int weight) {
        if (factor < 0 || factor >= factorCount) {
            return BAD_FACTOR;
        }
        if (way < 0 || way >= 1 << sizes[factor]) {
            return BAD_VALUE;
        }
        if (weight < 0 || weight > MAX_WEIGHT) {
            return BAD_WEIGHT;
        }
        int place = factor * FACTOR_WAYS + way;
        int old = weights[place];
        weights[place] = weight;
        return old;
    }

    public int evidence(int variable, int value) {
        if (!isVariable(variable)) {
            return BAD_VARIABLE;
        }
        if (value < NONE || value > 1) {
            return BAD_VALUE;
        }
        int bit = 1 << variable;
        int old = NONE;
        if ((fixedVariables & bit) != 0) {
            old = (fixedValues >> variable) & 1;
        }
        fixedVariables &= ~bit;
        fixedValues &= ~bit;
        if (value != NONE) {
            fixedVariables |= bit;
            fixedValues |= value << variable;
        }
        return old;
    }

    public int drop() {
        if (factorCount == 0) {
            return BAD_FACTOR;
        }
        factorCount--;
        return factorCount;
    }

    public long total() {
        return sumWhere(0, 0);
    }

    public long share(int variable) {
        if (!isVariable(variable)) {
            return 0;
        }
        int bit = 1 << variable;
        return sumWhere(bit, bit);
    }

    public long alike(int a, int b) {
        if (!isVariable(a) || !isVariable(b)) {
            return 0;
        }
        int both = (1 << a) | (1 << b);
        return sumWhere(both, 0) + sumWhere(both, both);
    }

    public long best() {
        int assignment = bestAssignment();
        return worth(assignment);
    }

    public int bestAssignment() {
        int found = 0;
        // Below every worth, so that an allowed assignment is found even if
        // all of them are worth 0.
        long greatest = -1;
        for (int assignment = 0; assignment < ASSIGNMENTS; assignment++) {
            if (isAllowed(assignment)) {
                long worth = worth(assignment);
                if (worth > greatest) {
                    greatest = worth;
                    found = assignment;
                }
            }
        }
        return found;
    }

    public int possible() {
        int count = 0;
        for (int assignment = 0; assignment < ASSIGNMENTS; assignment++) {
            if (isAllowed(assignment) && worth(assignment) > 0) {
                count++;
            }
        }
        return count;
    }

    public boolean independent(int a, int b) {
        if (!isVariable(a) || !isVariable(b)) {
            return true;
        }
        int bitA = 1 << a;
        int bitB = 1 << b;
        int both = bitA | bitB;
        long shareA = sumWhere(bitA, bitA);
        long shareB = sumWhere(bitB, bitB);
        // Products compared instead of quotients: exact, and no divisor that
        // could be 0. Each sum is below 2^30, so no product overflows.
        return sumWhere(0, 0) * sumWhere(both, both) == shareA * shareB;
    }

    private static boolean isVariable(int number) {
        return number >= 0 && number < VARIABLES;
    }

    private static boolean isVariableOrNone(int number) {
        return number == NONE || isVariable(number);
    }

    private void setVariables(int factor, int x, int y, int z) {
        int first = factor * FACTOR_VARIABLES;
        int size = 1;
        variables[first] = x;
        if (y != NONE) {
            variables[first + size] = y;
            size++;
        }
        if (z != NONE) {
            variables[first + size] = z;
            size++;
        }
        sizes[factor] = size;
    }

    // A dropped factor leaves its weights behind, so a new one can't count on
    // finding its place untouched.
    private void resetWeights(int factor) {
        int first = factor * FACTOR_WAYS;
        for (int way = 0; way < FACTOR_WAYS; way++) {
            weights[first + way] = 1;
        }
    }

    private boolean isAllowed(int assignment) {
        return (assignment & fixedVariables) == fixedValues;
    }

    private long worth(int assignment) {
        long product = 1;
        for (int factor = 0; factor < factorCount; factor++) {
            int way = wayOf(factor, assignment);
            product *= weights[factor * FACTOR_WAYS + way];
        }
        return product;
    }

    private int wayOf(int factor, int assignment) {
        int first = factor * FACTOR_VARIABLES;
        int size = sizes[factor];
        int way = 0;
        for (int i = 0; i < size; i++) {
            int value = (assignment >> variables[first + i]) & 1;
            way |= value << i;
        }
        return way;
    }

    // The sum of the worths of the allowed assignments that have these values
    // in the bits of this mask.
    private long sumWhere(int mask, int values) {
        long sum = 0;
        for (int assignment = 0; assignment < ASSIGNMENTS; assignment++) {
            if (isAllowed(assignment) && (assignment & mask) == values) {
                sum += worth(assignment);
            }
        }
        return sum;
    }
}
