/** One method for each promise of the document, with answers worked out by hand. */
public final class PromisesTest {
    private static final int[] NOT_VARIABLES = {
        -1, -2, 7, 8, 31, 32, 38, 64, Integer.MAX_VALUE, Integer.MIN_VALUE
    };
    private static final Check check = new Check();

    public static void main(String[] args) {
        constants();
        promise1NewObject();
        promise2Factor();
        promise2FactorRefused();
        promise2FactorFull();
        promise3Weight();
        promise3WeightRefused();
        promise4Evidence();
        promise4EvidenceRefused();
        promise5Drop();
        promise5DropForgetsWeights();
        promise6Total();
        promise7Share();
        promise8Alike();
        promise9Best();
        promise10BestAssignment();
        promise11Possible();
        promise12Independent();
        promise12IndependentAtTheLimit();
        promise13Order();
        questionsChangeNothing();
        objectsAreApart();
        check.end();
    }

    private static void constants() {
        check.due("BAD_VARIABLE", FactorGraph.BAD_VARIABLE, -1);
        check.due("BAD_FACTOR", FactorGraph.BAD_FACTOR, -2);
        check.due("BAD_WEIGHT", FactorGraph.BAD_WEIGHT, -3);
        check.due("FULL", FactorGraph.FULL, -4);
        check.due("BAD_VALUE", FactorGraph.BAD_VALUE, -5);
    }

    private static void promise1NewObject() {
        FactorGraph g = new FactorGraph();
        state("1: new", g, 128, 1, 0, 128);
        for (int v = 0; v < 7; v++) {
            check.due("1: share(" + v + ")", g.share(v), 64);
            check.due("1: evidence(" + v + ", -1)", g.evidence(v, -1), -1);
        }
        check.due("1: weight(0, 0, 1)", g.weight(0, 0, 1), FactorGraph.BAD_FACTOR);
        check.due("1: drop()", g.drop(), FactorGraph.BAD_FACTOR);
        check.due("1: factor(0, -1, -1)", g.factor(0, -1, -1), 0);
    }

    private static void promise2Factor() {
        FactorGraph g = new FactorGraph();
        check.due("2: factor(0, -1, -1)", g.factor(0, -1, -1), 0);
        check.due("2: factor(6, 0, -1)", g.factor(6, 0, -1), 1);
        check.due("2: factor(5, 6, 0)", g.factor(5, 6, 0), 2);
        check.due("2: factor(3, -1, 3), z not looked at", g.factor(3, -1, 3), 3);
        check.due("2: factor(3, -1, 7), z not looked at", g.factor(3, -1, 7), 4);
        check.due("2: factor(3, -1, min), z not looked at", g.factor(3, -1, Integer.MIN_VALUE), 5);
        check.due("2: the same variables again", g.factor(5, 6, 0), 6);
        state("2: all weights are 1", g, 128, 1, 0, 128);
        int[] sizes = {1, 2, 3, 1, 1, 1, 3};
        for (int f = 0; f < 7; f++) {
            int ways = 1 << sizes[f];
            check.due("2: way beyond factor " + f, g.weight(f, ways, 1), FactorGraph.BAD_VALUE);
            for (int way = 0; way < ways; way++) {
                check.due("2: first weight " + f + ", " + way, g.weight(f, way, 1), 1);
            }
        }
        unseenZHasNoEffect();
    }

    private static void unseenZHasNoEffect() {
        FactorGraph g = new FactorGraph();
        g.factor(3, -1, 5);
        g.weight(0, 1, 4);
        check.due("2: total with z unseen", g.total(), 64 + 64 * 4);
        check.due("2: share(5) with z unseen", g.share(5), 32 + 32 * 4);
    }

    private static void promise2FactorRefused() {
        FactorGraph g = new FactorGraph();
        for (int bad : NOT_VARIABLES) {
            refusedFactor(g, bad, -1, -1);
            refusedFactor(g, bad, 1, 2);
            if (bad != -1) {
                refusedFactor(g, 0, bad, -1);
                refusedFactor(g, 0, bad, 2);
                refusedFactor(g, 0, 1, bad);
            }
        }
        for (int v = 0; v < 7; v++) {
            int other = (v + 1) % 7;
            refusedFactor(g, v, v, -1);
            refusedFactor(g, v, v, other);
            refusedFactor(g, v, other, v);
            refusedFactor(g, other, v, v);
            refusedFactor(g, v, v, v);
        }
        refusedFactor(g, -1, -1, 0);
        check.due("2: first number after refusals", g.factor(0, 1, -1), 0);
    }

    private static void refusedFactor(FactorGraph g, int x, int y, int z) {
        String call = "2: factor(" + x + ", " + y + ", " + z + ")";
        check.due(call, g.factor(x, y, z), FactorGraph.BAD_VARIABLE);
        check.due("drop() after " + call, g.drop(), FactorGraph.BAD_FACTOR);
    }

    private static void promise2FactorFull() {
        FactorGraph g = sevenFactorsOfVariable0(9);
        check.due("2: eighth factor", g.factor(1, 2, 3), FactorGraph.FULL);
        check.due("2: eighth factor again", g.factor(1, -1, -1), FactorGraph.FULL);
        check.due("2: weight of the eighth", g.weight(7, 0, 5), FactorGraph.BAD_FACTOR);
        check.due("2: total when full", g.total(), 64L + 64L * 4782969L);
        check.due("2: drop() when full", g.drop(), 6);
        check.due("2: factor after drop", g.factor(1, 2, 3), 6);
        check.due("2: full again", g.factor(1, 2, 3), FactorGraph.FULL);
    }

    private static void promise3Weight() {
        FactorGraph g = new FactorGraph();
        g.factor(4, 2, 6);
        for (int way = 0; way < 8; way++) {
            check.due("3: old weight of way " + way, g.weight(0, way, way + 2), 1);
        }
        // Bit 0 of the way is variable 4, bit 1 variable 2, bit 2 variable 6.
        int[] mask = {0, 16, 4, 20, 64, 80, 68, 84};
        for (int way = 0; way < 8; way++) {
            fixAll(g, mask[way]);
            check.due("3: worth of way " + way, g.total(), way + 2);
        }
        freeAll(g);
        for (int way = 0; way < 8; way++) {
            check.due("3: weight 0 on way " + way, g.weight(0, way, 0), way + 2);
            check.due("3: old weight 0 of way " + way, g.weight(0, way, 9), 0);
            check.due("3: same weight on way " + way, g.weight(0, way, 9), 9);
        }
        state("3: all weights 9", g, 128 * 9, 9, 0, 128);
        weightsOfOneFactorOnly();
    }

    private static void weightsOfOneFactorOnly() {
        FactorGraph g = new FactorGraph();
        g.factor(0, 1, 2);
        g.factor(0, 1, 2);
        g.factor(0, 1, 2);
        g.weight(1, 0, 5);
        g.weight(1, 7, 6);
        check.due("3: factor 0 way 7", g.weight(0, 7, 1), 1);
        check.due("3: factor 2 way 0", g.weight(2, 0, 1), 1);
        check.due("3: factor 1 way 0", g.weight(1, 0, 5), 5);
        check.due("3: factor 1 way 7", g.weight(1, 7, 6), 6);
        check.due("3: total", g.total(), 16 * (5 + 6 + 6));
    }

    private static void promise3WeightRefused() {
        FactorGraph g = new FactorGraph();
        g.factor(0, -1, -1);
        g.factor(0, 1, -1);
        g.factor(0, 1, 2);
        int[] noFactors = {-1, -2, 3, 4, 6, 7, 100, Integer.MAX_VALUE, Integer.MIN_VALUE};
        for (int f : noFactors) {
            check.due("3: weight(" + f + ", 0, 5)", g.weight(f, 0, 5), FactorGraph.BAD_FACTOR);
        }
        for (int f = 0; f < 3; f++) {
            int ways = 2 << f;
            int[] noWays = {-1, ways, ways + 1, 8, Integer.MAX_VALUE, Integer.MIN_VALUE};
            for (int way : noWays) {
                check.due("3: weight(" + f + ", " + way + ", 5)", g.weight(f, way, 5), FactorGraph.BAD_VALUE);
            }
            int[] noWeights = {-1, 10, 11, Integer.MAX_VALUE, Integer.MIN_VALUE};
            for (int w : noWeights) {
                check.due("3: weight(" + f + ", 1, " + w + ")", g.weight(f, 1, w), FactorGraph.BAD_WEIGHT);
            }
            for (int way = 0; way < ways; way++) {
                check.due("3: unchanged " + f + ", " + way, g.weight(f, way, 1), 1);
            }
        }
        state("3: after refusals", g, 128, 1, 0, 128);
    }

    private static void promise4Evidence() {
        FactorGraph g = new FactorGraph();
        for (int v = 0; v < 7; v++) {
            int[] values = {0, 1, 1, 0, 0, -1, -1, 1, -1, 0, -1};
            int old = -1;
            for (int value : values) {
                String call = "4: evidence(" + v + ", " + value + ")";
                check.due(call, g.evidence(v, value), old);
                check.due("total after " + call, g.total(), value == -1 ? 128 : 64);
                check.due("share after " + call, g.share(v), value == 0 ? 0 : 64);
                old = value;
            }
        }
        fixAll(g, 0x55);
        state("4: all fixed to 0x55", g, 1, 1, 0x55, 1);
        fixAll(g, 0x7f);
        state("4: all fixed to 0x7f", g, 1, 1, 0x7f, 1);
        check.due("4: free 6", g.evidence(6, -1), 1);
        state("4: 6 free", g, 2, 1, 0x3f, 2);
        evidenceOutlivesFactors();
    }

    private static void evidenceOutlivesFactors() {
        FactorGraph g = new FactorGraph();
        g.evidence(2, 1);
        g.factor(2, -1, -1);
        g.weight(0, 1, 3);
        check.due("4: total under evidence", g.total(), 64 * 3);
        g.drop();
        check.due("4: evidence after drop", g.evidence(2, -1), 1);
    }

    private static void promise4EvidenceRefused() {
        FactorGraph g = new FactorGraph();
        g.evidence(3, 1);
        for (int bad : NOT_VARIABLES) {
            for (int value = -1; value <= 1; value++) {
                check.due("4: evidence(" + bad + ", " + value + ")", g.evidence(bad, value), FactorGraph.BAD_VARIABLE);
            }
        }
        int[] noValues = {-2, -3, 2, 3, 4, Integer.MAX_VALUE, Integer.MIN_VALUE};
        for (int value : noValues) {
            check.due("4: evidence(3, " + value + ")", g.evidence(3, value), FactorGraph.BAD_VALUE);
            check.due("4: evidence(0, " + value + ")", g.evidence(0, value), FactorGraph.BAD_VALUE);
        }
        state("4: after refusals", g, 64, 1, 8, 64);
        check.due("4: 3 unchanged", g.evidence(3, -1), 1);
        check.due("4: 0 unchanged", g.evidence(0, -1), -1);
    }

    private static void promise5Drop() {
        FactorGraph g = new FactorGraph();
        check.due("5: drop() without factors", g.drop(), FactorGraph.BAD_FACTOR);
        g.factor(0, -1, -1);
        g.weight(0, 1, 2);
        g.factor(1, -1, -1);
        g.weight(1, 1, 3);
        g.factor(2, -1, -1);
        g.weight(2, 1, 4);
        check.due("5: total of three", g.total(), 16 * 3 * 4 * 5);
        check.due("5: drop() of three", g.drop(), 2);
        check.due("5: total of two", g.total(), 32 * 3 * 4);
        check.due("5: weight of the dropped", g.weight(2, 0, 1), FactorGraph.BAD_FACTOR);
        check.due("5: drop() of two", g.drop(), 1);
        check.due("5: total of one", g.total(), 64 * 3);
        check.due("5: drop() of one", g.drop(), 0);
        check.due("5: total of none", g.total(), 128);
        check.due("5: drop() of none", g.drop(), FactorGraph.BAD_FACTOR);
        check.due("5: drop() of none again", g.drop(), FactorGraph.BAD_FACTOR);
        check.due("5: factor after all", g.factor(6, -1, -1), 0);
    }

    private static void promise5DropForgetsWeights() {
        FactorGraph g = new FactorGraph();
        g.factor(0, 1, 2);
        for (int way = 0; way < 8; way++) {
            g.weight(0, way, way);
        }
        g.drop();
        g.factor(3, -1, -1);
        state("5: one variable in the place of three", g, 128, 1, 0, 128);
        check.due("5: way 2 of one variable", g.weight(0, 2, 1), FactorGraph.BAD_VALUE);
        g.drop();
        g.factor(4, 5, 6);
        for (int way = 0; way < 8; way++) {
            check.due("5: fresh weight " + way, g.weight(0, way, 1), 1);
        }
    }

    private static void promise6Total() {
        FactorGraph g = pair();
        check.due("6: total()", g.total(), 32 * (2 + 3 + 5 + 0));
        g.evidence(0, 1);
        check.due("6: total() with 0 fixed to 1", g.total(), 32 * (3 + 0));
        g.evidence(1, 1);
        check.due("6: total() of worth 0", g.total(), 0);
        check.due("6: the greatest total", sevenFactorsOfNines().total(), 128L * 4782969L);
    }

    private static void promise7Share() {
        FactorGraph g = pair();
        check.due("7: share(0)", g.share(0), 32 * 3);
        check.due("7: share(1)", g.share(1), 32 * 5);
        check.due("7: share(6)", g.share(6), 16 * 10);
        g.evidence(0, 0);
        check.due("7: share(0), 0 fixed to 0", g.share(0), 0);
        check.due("7: share(1), 0 fixed to 0", g.share(1), 32 * 5);
        g.evidence(0, 1);
        check.due("7: share(0), 0 fixed to 1", g.share(0), 32 * 3);
        check.due("7: share(1), 0 fixed to 1", g.share(1), 0);
        for (int bad : NOT_VARIABLES) {
            check.due("7: share(" + bad + ")", g.share(bad), 0);
        }
    }

    private static void promise8Alike() {
        FactorGraph g = pair();
        check.due("8: alike(0, 1)", g.alike(0, 1), 32 * 2);
        check.due("8: alike(1, 0)", g.alike(1, 0), 32 * 2);
        check.due("8: alike(0, 6)", g.alike(0, 6), 16 * 10);
        check.due("8: alike(0, 0)", g.alike(0, 0), 32 * 10);
        check.due("8: alike(6, 6)", g.alike(6, 6), 32 * 10);
        g.weight(0, 3, 7);
        check.due("8: alike(0, 1) with both 1", g.alike(0, 1), 32 * (2 + 7));
        g.evidence(1, 1);
        check.due("8: alike(0, 1), 1 fixed to 1", g.alike(0, 1), 32 * 7);
        check.due("8: alike(1, 1), 1 fixed to 1", g.alike(1, 1), 32 * 12);
        for (int bad : NOT_VARIABLES) {
            check.due("8: alike(" + bad + ", 0)", g.alike(bad, 0), 0);
            check.due("8: alike(0, " + bad + ")", g.alike(0, bad), 0);
            check.due("8: alike of " + bad + " twice", g.alike(bad, bad), 0);
        }
    }

    private static void promise9Best() {
        FactorGraph g = pair();
        check.due("9: best()", g.best(), 5);
        g.evidence(1, 0);
        check.due("9: best(), 1 fixed to 0", g.best(), 3);
        g.evidence(0, 1);
        g.evidence(1, 1);
        check.due("9: best() of worth 0", g.best(), 0);
        check.due("9: the greatest best", sevenFactorsOfNines().best(), 4782969);
        check.due("9: the greatest best of one way", sevenFactorsOfVariable0(9).best(), 4782969);
        check.due("9: best() beside weights 0", sevenFactorsOfVariable0(0).best(), 1);
    }

    private static void promise10BestAssignment() {
        FactorGraph g = pair();
        check.due("10: bestAssignment()", g.bestAssignment(), 2);
        g.evidence(5, 1);
        check.due("10: bestAssignment(), 5 fixed to 1", g.bestAssignment(), 34);
        g.evidence(1, 0);
        check.due("10: bestAssignment(), 1 fixed to 0", g.bestAssignment(), 33);
        g.evidence(0, 1);
        g.evidence(1, 1);
        check.due("10: all allowed worth 0", g.bestAssignment(), 35);
        g.weight(0, 0, 0);
        g.weight(0, 1, 0);
        g.weight(0, 2, 0);
        check.due("10: all worth 0", g.bestAssignment(), 35);
        fixAll(g, 0x7f);
        check.due("10: one allowed, worth 0", g.bestAssignment(), 0x7f);
        freeAll(g);
        check.due("10: all free, all worth 0", g.bestAssignment(), 0);
        g.weight(0, 1, 9);
        g.weight(0, 2, 9);
        check.due("10: the smaller of two", g.bestAssignment(), 1);
    }

    private static void promise11Possible() {
        FactorGraph g = pair();
        check.due("11: possible()", g.possible(), 96);
        g.evidence(0, 1);
        check.due("11: possible(), 0 fixed to 1", g.possible(), 32);
        g.evidence(1, 1);
        check.due("11: possible() of worth 0", g.possible(), 0);
        g.weight(0, 3, 9);
        check.due("11: possible() of worth 9", g.possible(), 32);
        g.factor(6, -1, -1);
        g.weight(1, 0, 0);
        check.due("11: possible() of two factors", g.possible(), 16);
    }

    private static void promise12Independent() {
        FactorGraph g = pair();
        check.due("12: independent(0, 1)", g.independent(0, 1), false);
        check.due("12: independent(1, 0)", g.independent(1, 0), false);
        check.due("12: independent(0, 6)", g.independent(0, 6), true);
        check.due("12: independent(0, 0)", g.independent(0, 0), false);
        check.due("12: independent(6, 6)", g.independent(6, 6), false);
        for (int bad : NOT_VARIABLES) {
            check.due("12: independent(" + bad + ", 0)", g.independent(bad, 0), true);
            check.due("12: independent(0, " + bad + ")", g.independent(0, bad), true);
            check.due("12: independent of " + bad + " twice", g.independent(bad, bad), true);
        }
        g.evidence(0, 1);
        check.due("12: independent(0, 1), 0 fixed to 1", g.independent(0, 1), true);
        check.due("12: independent(0, 0), 0 fixed to 1", g.independent(0, 0), true);
        g.evidence(0, 0);
        check.due("12: independent(0, 0), 0 fixed to 0", g.independent(0, 0), true);
        g.evidence(0, 1);
        g.evidence(1, 1);
        check.due("12: independent(5, 6), all worth 0", g.independent(5, 6), true);
        check.due("12: independent(5, 5), all worth 0", g.independent(5, 5), true);
        g.evidence(0, -1);
        g.evidence(1, -1);
        // 2 * 9 = 3 * 6: the factor is a product although no weight is 1.
        g.weight(0, 1, 3);
        g.weight(0, 2, 6);
        g.weight(0, 3, 9);
        check.due("12: a factor that is a product", g.independent(0, 1), true);
        g.weight(0, 3, 8);
        check.due("12: a factor that is nearly one", g.independent(0, 1), false);
    }

    private static void promise12IndependentAtTheLimit() {
        FactorGraph g = sevenFactorsOfNines();
        check.due("12: independent(0, 1) at the limit", g.independent(0, 1), true);
        check.due("12: independent(0, 0) at the limit", g.independent(0, 0), false);
        g.weight(6, 7, 8);
        check.due("12: independent(0, 1) near the limit", g.independent(0, 1), false);

        // The two products differ by 2^52 - 2^45, which 32 bits would lose.
        FactorGraph wide = new FactorGraph();
        for (int f = 0; f < 7; f++) {
            wide.factor(0, 1, -1);
            wide.weight(f, 0, 8);
            wide.weight(f, 1, 8);
            wide.weight(f, 2, 8);
            wide.weight(f, 3, 4);
        }
        check.due("12: independent(0, 1) beyond 32 bits", wide.independent(0, 1), false);
    }

    private static void promise13Order() {
        FactorGraph full = sevenFactorsOfVariable0(2);
        check.due("13: factor(7, -1, -1) when full", full.factor(7, -1, -1), FactorGraph.BAD_VARIABLE);
        check.due("13: factor(0, 7, -1) when full", full.factor(0, 7, -1), FactorGraph.BAD_VARIABLE);
        check.due("13: factor(0, 1, 7) when full", full.factor(0, 1, 7), FactorGraph.BAD_VARIABLE);
        check.due("13: factor(0, 0, -1) when full", full.factor(0, 0, -1), FactorGraph.BAD_VARIABLE);
        check.due("13: factor(0, 1, 1) when full", full.factor(0, 1, 1), FactorGraph.BAD_VARIABLE);
        check.due("13: factor(0, -1, 7) when full", full.factor(0, -1, 7), FactorGraph.FULL);
        state("13: full, after refusals", full, 64 + 64 * 128, 128, 1, 128);

        FactorGraph g = pair();
        check.due("13: weight(1, 4, 10)", g.weight(1, 4, 10), FactorGraph.BAD_FACTOR);
        check.due("13: weight(1, 4, 5)", g.weight(1, 4, 5), FactorGraph.BAD_FACTOR);
        check.due("13: weight(-1, 0, 10)", g.weight(-1, 0, 10), FactorGraph.BAD_FACTOR);
        check.due("13: weight(0, 4, 10)", g.weight(0, 4, 10), FactorGraph.BAD_VALUE);
        check.due("13: weight(0, -1, -1)", g.weight(0, -1, -1), FactorGraph.BAD_VALUE);
        check.due("13: weight(0, 3, 10)", g.weight(0, 3, 10), FactorGraph.BAD_WEIGHT);
        check.due("13: evidence(7, 2)", g.evidence(7, 2), FactorGraph.BAD_VARIABLE);
        check.due("13: evidence(-1, -2)", g.evidence(-1, -2), FactorGraph.BAD_VARIABLE);
        check.due("13: evidence(6, 2)", g.evidence(6, 2), FactorGraph.BAD_VALUE);
        state("13: after refusals", g, 320, 5, 2, 96);
    }

    private static void questionsChangeNothing() {
        FactorGraph g = pair();
        g.evidence(4, 1);
        for (int round = 0; round < 3; round++) {
            for (int v = -1; v <= 7; v++) {
                g.share(v);
                g.alike(v, 1);
                g.independent(1, v);
            }
            state("questions, round " + round, g, 160, 5, 18, 48);
        }
        check.due("questions: evidence", g.evidence(4, -1), 1);
        check.due("questions: weight", g.weight(0, 2, 5), 5);
        check.due("questions: drop", g.drop(), 0);
    }

    private static void objectsAreApart() {
        FactorGraph one = pair();
        FactorGraph other = new FactorGraph();
        other.evidence(0, 1);
        state("apart: one", one, 320, 5, 2, 96);
        state("apart: other", other, 64, 1, 1, 64);
        check.due("apart: factor", other.factor(0, 1, -1), 0);
        check.due("apart: weight", other.weight(0, 0, 1), 1);
    }

    private static void state(String when, FactorGraph g, long total, long best, int assignment, int possible) {
        check.due(when + ": total()", g.total(), total);
        check.due(when + ": best()", g.best(), best);
        check.due(when + ": bestAssignment()", g.bestAssignment(), assignment);
        check.due(when + ": possible()", g.possible(), possible);
    }

    /** One factor over 0 and 1, with the weights 2, 3, 5, 0. */
    private static FactorGraph pair() {
        FactorGraph g = new FactorGraph();
        g.factor(0, 1, -1);
        g.weight(0, 0, 2);
        g.weight(0, 1, 3);
        g.weight(0, 2, 5);
        g.weight(0, 3, 0);
        return g;
    }

    private static FactorGraph sevenFactorsOfVariable0(int weightOfOne) {
        FactorGraph g = new FactorGraph();
        for (int f = 0; f < 7; f++) {
            check.due("factor(0, -1, -1)", g.factor(0, -1, -1), f);
            check.due("weight(" + f + ", 1, w)", g.weight(f, 1, weightOfOne), 1);
        }
        return g;
    }

    private static FactorGraph sevenFactorsOfNines() {
        FactorGraph g = new FactorGraph();
        for (int f = 0; f < 7; f++) {
            g.factor(0, 1, 2);
            for (int way = 0; way < 8; way++) {
                g.weight(f, way, 9);
            }
        }
        return g;
    }

    private static void fixAll(FactorGraph g, int mask) {
        for (int v = 0; v < 7; v++) {
            g.evidence(v, (mask >> v) & 1);
        }
    }

    private static void freeAll(FactorGraph g) {
        for (int v = 0; v < 7; v++) {
            g.evidence(v, -1);
        }
    }
}
