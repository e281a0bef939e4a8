/** Long runs of calls, made by a fixed rule, against a second account of the document. */
public final class ModelTest {
    private static final int RUNS = 400;

    private final int run;
    private final Twin twin;
    private long state;

    private ModelTest(Check check, int run) {
        this.run = run;
        twin = new Twin(check, "run " + run);
        state = run * 7919L + 1;
    }

    public static void main(String[] args) {
        Check check = new Check();
        for (int run = 0; run < RUNS; run++) {
            new ModelTest(check, run).calls();
        }
        check.end();
    }

    /** The next number of a fixed sequence, from low to high. */
    private int next(int low, int high) {
        state = state * 6364136223846793005L + 1442695040888963407L;
        return low + (int) ((state >>> 33) % (high - low + 1));
    }

    /** A variable, and now and then a number that is none. */
    private int variable() {
        return next(0, 9) == 0 ? next(-3, 9) : next(0, 6);
    }

    private int weightValue() {
        // Some runs keep to high weights, to come near the greatest sums.
        if (next(0, 19) == 0) {
            return next(-2, 12);
        }
        return run % 3 == 0 ? next(7, 9) : next(0, 9);
    }

    private void calls() {
        for (int call = 0; call < Twin.MOST_CALLS; call++) {
            int kind = next(0, 99);
            if (kind < 8) {
                twin.factor(variable(), next(0, 3) == 0 ? -1 : variable(), next(0, 2) == 0 ? -1 : variable());
            } else if (kind < 45) {
                int factor = next(0, 15) == 0 ? next(-2, 8) : next(0, 6);
                twin.weight(factor, next(0, 15) == 0 ? next(-2, 9) : next(0, 7), weightValue());
            } else if (kind < 55) {
                twin.evidence(variable(), next(0, 9) == 0 ? next(-3, 3) : next(-1, 1));
            } else if (kind < 59) {
                twin.drop();
            } else {
                question(kind % 7, variable(), variable());
            }
        }
    }

    private void question(int kind, int a, int b) {
        switch (kind) {
            case 0 -> twin.total();
            case 1 -> twin.share(a);
            case 2 -> twin.alike(a, b);
            case 3 -> twin.best();
            case 4 -> twin.bestAssignment();
            case 5 -> twin.possible();
            default -> twin.independent(a, b);
        }
    }
}
