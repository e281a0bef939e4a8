/**
 * One method for each sentence of the document that names a boundary case, in
 * the document's order; what each method checks is printed under that sentence.
 * The answers are worked out by hand.
 */
public final class BoundaryTest {
    private static final int MIN = Integer.MIN_VALUE;
    private static final int MAX = Integer.MAX_VALUE;
    private static final long NINE_TO_THE_7TH = 4782969;
    // -32 and -26 shift as 0 and 6 do.
    private static final int[] TOO_SMALL_VARIABLES = {-1, -2, -7, -26, -32, MIN};
    // 32 to 38 shift as 0 to 6 do.
    private static final int[] TOO_LARGE_VARIABLES = {7, 8, 31, 32, 33, 38, 64, 128, MAX};
    private static final Check check = new Check();

    public static void main(String[] args) {
        whatItIs();
        terms();
        promise1();
        promise2();
        promise3();
        promise4();
        promise5();
        promises6To8();
        promises9To11();
        promise12();
        promise13();
        check.end();
    }

    private static void whatItIs() {
        sevenVariables0To6();
        at512Calls();
    }

    private static void terms() {
        atMostSevenFactors();
        oneToThreeVariables();
        differentVariables();
        weights0To9();
        aWeightForEachWay();
        evidenceFixesSome();
        allowedIfItAgrees();
        worthIs1WithoutFactors();
        worthAtMost9ToThe7th();
        productOverAllFactors();
        callsBelowChangeNothing();
    }

    private static void promise1() {
        newHasNoFactors();
        newHasNoEvidence();
    }

    private static void promise2() {
        yMayBeNone();
        zMayBeNone();
        zNotLookedAtWithoutY();
        allWeightsAre1();
        allWeightsAre1InAPlaceUsedBefore();
        xTooSmall();
        xTooLarge();
        yTooSmall();
        yTooLarge();
        zTooSmall();
        zTooLarge();
        xAndYTheSame();
        xAndZTheSame();
        yAndZTheSame();
        fullAtSeven();
        fullNoMoreAfterDrop();
        refusedFactorChangesNothing();
        numberFrom0();
    }

    private static void promise3() {
        wayBits();
        noSuchFactorInNew();
        noSuchFactorTooSmall();
        noSuchFactorTooLarge();
        noSuchFactorDropped();
        wayTooSmall();
        wayTooLarge();
        wayAtItsEnds();
        weightTooSmall();
        weightTooLarge();
        weightAtItsEnds();
        refusedWeightChangesNothing();
        answersTheOldWeight();
    }

    private static void promise4() {
        fixesTo0();
        fixesTo1();
        frees();
        evidenceVariableTooSmall();
        evidenceVariableTooLarge();
        evidenceVariableAtItsEnds();
        valueTooSmall();
        valueTooLarge();
        refusedEvidenceChangesNothing();
        answersTheOldEvidence();
        oldEvidenceOfAFreeOne();
    }

    private static void promise5() {
        takesTheLastOut();
        dropOfNone();
        dropOfNoneChangesNothing();
        howManyAreLeft();
    }

    private static void promises6To8() {
        totalAtMost();
        totalOfOneAllowed();
        totalOfWorth0();
        shareOfAFixedVariable();
        shareAtMost();
        shareTooSmall();
        shareTooLarge();
        alikeOfOneVariable();
        alikeOfFixedVariables();
        alikeAtMost();
        alikeFirstOutside();
        alikeSecondOutside();
        alikeBothOutside();
    }

    private static void promises9To11() {
        bestAtMost();
        bestOfOneAllowed();
        bestOfWorth0();
        bestIsOfAllowedOnes();
        smallestOfEqualWorth();
        smallestWhereAllAreWorth0();
        smallestIsOfAllowedOnes();
        bitVIsVariableV();
        possibleAtItsEnds();
        possibleIsAbove0();
        possibleIsOfAllowedOnes();
    }

    private static void promise12() {
        independentFirstOutside();
        independentSecondOutside();
        independentBothOutside();
        independentOfOneVariable();
        independentOfFixedVariables();
        independentWithoutWorth();
        independentOverTheAllowed();
        independentIsExact();
        numbersBelow2ToThe63();
    }

    private static void promise13() {
        badVariableBeforeFull();
        badFactorBeforeBadValue();
        badFactorBeforeBadWeight();
        badValueBeforeBadWeight();
        badVariableBeforeBadValue();
    }

    // ---- What it is

    private static void sevenVariables0To6() {
        check.about("seven yes-or-no VARIABLES (0 to 6)");
        for (int v = 0; v <= 6; v++) {
            FactorGraph g = new FactorGraph();
            due("factor(" + v + ", -1, -1)", g.factor(v, -1, -1), 0);
            due("weight(0, 1, 3)", g.weight(0, 1, 3), 1);
            due("total()", g.total(), 64 + 64 * 3);
            due("share(" + v + ")", g.share(v), 64 * 3);
            due("alike with itself", g.alike(v, v), 64 + 64 * 3);
            due("independent of itself", g.independent(v, v), false);
            due("bestAssignment()", g.bestAssignment(), 1 << v);
            due("evidence(" + v + ", 0)", g.evidence(v, 0), -1);
            due("total() with it 0", g.total(), 64);
        }
    }

    private static void at512Calls() {
        check.about("used for at most 512 calls");
        FactorGraph changed = new FactorGraph();
        for (int call = 1; call <= 511; call++) {
            due("evidence(6, ..), call " + call, changed.evidence(6, call % 2), call == 1 ? -1 : (call - 1) % 2);
        }
        due("total(), call 512", changed.total(), 64);

        FactorGraph refused = new FactorGraph();
        for (int call = 1; call <= 511; call++) {
            due("drop(), call " + call, refused.drop(), FactorGraph.BAD_FACTOR);
        }
        due("factor(0, 1, 2), call 512", refused.factor(0, 1, 2), 0);

        FactorGraph asked = new FactorGraph();
        for (int call = 1; call <= 511; call++) {
            due("total(), call " + call, asked.total(), 128);
        }
        due("evidence(0, 1), call 512", asked.evidence(0, 1), -1);

        FactorGraph built = new FactorGraph();
        for (int call = 1; call <= 511; call += 2) {
            due("factor(0, 1, 2), call " + call, built.factor(0, 1, 2), 0);
            due("drop(), call " + (call + 1), built.drop(), 0);
        }
    }

    // ---- Terms

    private static void atMostSevenFactors() {
        check.about("There are at most seven FACTORS");
        FactorGraph g = new FactorGraph();
        for (int f = 0; f < 7; f++) {
            due("factor(" + f + ", -1, -1)", g.factor(f, -1, -1), f);
            due("weight(" + f + ", 1, 2)", g.weight(f, 1, 2), 1);
        }
        due("factor(0, -1, -1), the eighth", g.factor(0, -1, -1), FactorGraph.FULL);
        due("total() of seven, 3 to the 7th", g.total(), 2187);
        due("drop()", g.drop(), 6);
        due("total() of six", g.total(), 2 * 729);
    }

    private static void oneToThreeVariables() {
        check.about("a factor has one to three different variables");
        int[] sizes = {1, 2, 3};
        for (int size : sizes) {
            FactorGraph g = new FactorGraph();
            due("factor of " + size, g.factor(6, size > 1 ? 3 : -1, size > 2 ? 0 : -1), 0);
            due("weight of all 1", g.weight(0, (1 << size) - 1, 9), 1);
            due("total() of " + size, g.total(), 128 + (128 >> size) * 8);
            due("share(6) of " + size, g.share(6), 64 + (128 >> size) * 8);
            due("share(3) of " + size, g.share(3), 64 + (size > 1 ? 128 >> size : 64 >> size) * 8);
            due("share(0) of " + size, g.share(0), 64 + (size > 2 ? 128 >> size : 64 >> size) * 8);
        }
    }

    private static void differentVariables() {
        check.about("one to three different variables");
        FactorGraph g = new FactorGraph();
        for (int x = 0; x < 7; x++) {
            for (int y = 0; y < 7; y++) {
                boolean same = x == y;
                due("factor(" + x + ", " + y + ", -1)", g.factor(x, y, -1), same ? FactorGraph.BAD_VARIABLE : 0);
                due("drop()", g.drop(), same ? FactorGraph.BAD_FACTOR : 0);
            }
        }
        for (int x = 0; x < 7; x++) {
            FactorGraph h = new FactorGraph();
            for (int y = 0; y < 7; y++) {
                for (int z = 0; z < 7; z++) {
                    boolean same = x == y || x == z || y == z;
                    String call = "factor(" + x + ", " + y + ", " + z + ")";
                    due(call, h.factor(x, y, z), same ? FactorGraph.BAD_VARIABLE : 0);
                    due("drop()", h.drop(), same ? FactorGraph.BAD_FACTOR : 0);
                }
            }
        }
    }

    private static void weights0To9() {
        check.about("a WEIGHT, 0 to 9");
        for (int weight = 0; weight <= 9; weight++) {
            FactorGraph g = new FactorGraph();
            g.factor(2, -1, -1);
            due("weight(0, 1, " + weight + ")", g.weight(0, 1, weight), 1);
            due("total() with weight " + weight, g.total(), 64 + 64 * weight);
            due("the weight that was set", g.weight(0, 1, 1), weight);
        }
    }

    private static void aWeightForEachWay() {
        check.about("a WEIGHT for each way to set them");
        for (int size = 1; size <= 3; size++) {
            FactorGraph g = new FactorGraph();
            g.factor(0, size > 1 ? 1 : -1, size > 2 ? 2 : -1);
            int ways = 1 << size;
            for (int way = 0; way < ways; way++) {
                due("first weight, way " + way + " of " + ways, g.weight(0, way, way + 2), 1);
            }
            for (int way = 0; way < ways; way++) {
                fix(g, way);
                due("worth of way " + way + " of " + ways, g.total(), way + 2);
            }
        }
    }

    private static void evidenceFixesSome() {
        check.about("EVIDENCE fixes some variables");
        FactorGraph g = new FactorGraph();
        due("possible(), none fixed", g.possible(), 128);
        for (int v = 0; v < 7; v++) {
            due("evidence(" + v + ", 1)", g.evidence(v, 1), -1);
            due("possible(), " + (v + 1) + " fixed", g.possible(), 64 >> v);
            due("bestAssignment(), " + (v + 1) + " fixed", g.bestAssignment(), (2 << v) - 1);
        }
    }

    private static void allowedIfItAgrees() {
        check.about("it is ALLOWED if it agrees with the evidence");
        FactorGraph g = new FactorGraph();
        for (int mask = 0; mask < 128; mask += 21) {
            fix(g, mask);
            due("total(), fixed to " + mask, g.total(), 1);
            due("bestAssignment(), fixed to " + mask, g.bestAssignment(), mask);
            for (int v = 0; v < 7; v++) {
                due("share(" + v + "), fixed to " + mask, g.share(v), (mask >> v) & 1);
            }
        }
    }

    private static void worthIs1WithoutFactors() {
        check.about("1 without factors");
        FactorGraph g = new FactorGraph();
        fix(g, 0);
        due("total(), new, all fixed", g.total(), 1);
        due("best(), new", g.best(), 1);
        due("possible(), new, all fixed", g.possible(), 1);
        g.factor(0, -1, -1);
        g.weight(0, 0, 0);
        due("best() with a factor of 0", g.best(), 0);
        g.drop();
        due("best() when it is dropped", g.best(), 1);
        due("total() when it is dropped", g.total(), 1);
    }

    private static void worthAtMost9ToThe7th() {
        check.about("at most 9 to the 7th");
        FactorGraph g = nines();
        fix(g, 0x2a);
        due("total(), all fixed", g.total(), NINE_TO_THE_7TH);
        due("best(), all fixed", g.best(), NINE_TO_THE_7TH);
    }

    private static void productOverAllFactors() {
        check.about("the product, over all factors");
        FactorGraph g = new FactorGraph();
        long product = 1;
        for (int f = 0; f < 7; f++) {
            g.factor(5, -1, -1);
            g.weight(f, 1, f + 3);
            product *= f + 3;
            due("best() of " + (f + 1), g.best(), product);
        }
        due("weight(6, 1, 0)", g.weight(6, 1, 0), 9);
        due("share(5) with one weight 0", g.share(5), 0);
        due("total() with one weight 0", g.total(), 64);
    }

    private static void callsBelowChangeNothing() {
        check.about("The calls below change nothing that any call answers");
        FactorGraph g = ramp();
        g.evidence(6, 1);
        long[] first = answers(g);
        long[] second = answers(g);
        for (int i = 0; i < first.length; i++) {
            due("answer " + i + " asked again", second[i], first[i]);
        }
        due("evidence(6, -1)", g.evidence(6, -1), 1);
        for (int way = 0; way < 8; way++) {
            due("weight(0, " + way + ", 1)", g.weight(0, way, 1), way + 2);
        }
        due("drop()", g.drop(), 0);
    }

    private static long[] answers(FactorGraph g) {
        long[] answers = new long[4 + 3 * 9];
        int next = 0;
        answers[next++] = g.total();
        answers[next++] = g.best();
        answers[next++] = g.bestAssignment();
        answers[next++] = g.possible();
        for (int v = -1; v <= 7; v++) {
            answers[next++] = g.share(v);
            answers[next++] = g.alike(v, 1);
            answers[next++] = g.independent(2, v) ? 1 : 0;
        }
        return answers;
    }

    // ---- Promise 1

    private static void newHasNoFactors() {
        check.about("1: No factors");
        due("drop()", new FactorGraph().drop(), FactorGraph.BAD_FACTOR);
        due("weight(0, 0, 1)", new FactorGraph().weight(0, 0, 1), FactorGraph.BAD_FACTOR);
        due("factor(0, -1, -1)", new FactorGraph().factor(0, -1, -1), 0);
        due("total()", new FactorGraph().total(), 128);
        due("best()", new FactorGraph().best(), 1);
        due("bestAssignment()", new FactorGraph().bestAssignment(), 0);
    }

    private static void newHasNoEvidence() {
        check.about("1: no evidence");
        due("possible()", new FactorGraph().possible(), 128);
        for (int v = 0; v < 7; v++) {
            due("share(" + v + ")", new FactorGraph().share(v), 64);
            due("alike(" + v + ", ..)", new FactorGraph().alike(v, (v + 1) % 7), 64);
            due("independent(" + v + ", ..)", new FactorGraph().independent(v, (v + 1) % 7), true);
            due("evidence(" + v + ", 0)", new FactorGraph().evidence(v, 0), -1);
        }
    }

    // ---- Promise 2

    private static void yMayBeNone() {
        check.about("2: y may be -1 for none");
        FactorGraph g = new FactorGraph();
        due("factor(6, -1, -1)", g.factor(6, -1, -1), 0);
        due("weight(0, 1, 5), the greatest way", g.weight(0, 1, 5), 1);
        due("weight(0, 2, 5), beyond it", g.weight(0, 2, 5), FactorGraph.BAD_VALUE);
        due("total()", g.total(), 64 + 64 * 5);
    }

    private static void zMayBeNone() {
        check.about("2: z may be -1 for none");
        FactorGraph g = new FactorGraph();
        due("factor(6, 0, -1)", g.factor(6, 0, -1), 0);
        due("weight(0, 3, 5), the greatest way", g.weight(0, 3, 5), 1);
        due("weight(0, 4, 5), beyond it", g.weight(0, 4, 5), FactorGraph.BAD_VALUE);
        due("total()", g.total(), 96 + 32 * 5);
    }

    private static void zNotLookedAtWithoutY() {
        check.about("2: z is not looked at if y is -1");
        int[] unseen = {-1, -2, MIN, 7, 8, MAX, 3, 5};
        for (int z : unseen) {
            FactorGraph g = new FactorGraph();
            due("factor(3, -1, " + z + ")", g.factor(3, -1, z), 0);
            due("weight(0, 2, 4)", g.weight(0, 2, 4), FactorGraph.BAD_VALUE);
            due("weight(0, 1, 4)", g.weight(0, 1, 4), 1);
            due("total()", g.total(), 64 + 64 * 4);
            due("share(5)", g.share(5), 32 + 32 * 4);
        }
    }

    private static void allWeightsAre1() {
        check.about("2: All its weights are 1");
        for (int size = 1; size <= 3; size++) {
            FactorGraph g = new FactorGraph();
            g.factor(1, size > 1 ? 2 : -1, size > 2 ? 4 : -1);
            due("total()", g.total(), 128);
            due("best()", g.best(), 1);
            for (int way = 0; way < 1 << size; way++) {
                due("weight(0, " + way + ", 0) of " + size, g.weight(0, way, 0), 1);
            }
        }
    }

    private static void allWeightsAre1InAPlaceUsedBefore() {
        check.about("2: All its weights are 1, in a dropped one's place");
        for (int size = 1; size <= 3; size++) {
            FactorGraph g = ramp();
            g.drop();
            g.factor(1, size > 1 ? 2 : -1, size > 2 ? 4 : -1);
            due("total()", g.total(), 128);
            for (int way = 0; way < 1 << size; way++) {
                due("weight(0, " + way + ", 0) of " + size, g.weight(0, way, 0), 1);
            }
        }
    }

    private static void xTooSmall() {
        check.about("2: x not in 0 to 6, too small");
        for (int x : TOO_SMALL_VARIABLES) {
            refusedFactor(x, -1, -1);
            refusedFactor(x, -1, 3);
            refusedFactor(x, 1, -1);
            refusedFactor(x, 1, 2);
        }
        acceptedFactor(0, 1, 2);
    }

    private static void xTooLarge() {
        check.about("2: x not in 0 to 6, too large");
        for (int x : TOO_LARGE_VARIABLES) {
            refusedFactor(x, -1, -1);
            refusedFactor(x, -1, 3);
            refusedFactor(x, 1, -1);
            refusedFactor(x, 1, 2);
        }
        acceptedFactor(6, 1, 2);
    }

    private static void yTooSmall() {
        check.about("2: y not in -1 to 6, too small");
        for (int y : TOO_SMALL_VARIABLES) {
            if (y != -1) {
                refusedFactor(0, y, -1);
                refusedFactor(0, y, 2);
            }
        }
        acceptedFactor(1, 0, 2);
    }

    private static void yTooLarge() {
        check.about("2: y not in -1 to 6, too large");
        for (int y : TOO_LARGE_VARIABLES) {
            refusedFactor(1, y, -1);
            refusedFactor(1, y, 2);
        }
        acceptedFactor(1, 6, 2);
    }

    private static void zTooSmall() {
        check.about("2: z not in -1 to 6, too small");
        for (int z : TOO_SMALL_VARIABLES) {
            if (z != -1) {
                refusedFactor(0, 1, z);
            }
        }
        acceptedFactor(1, 2, 0);
    }

    private static void zTooLarge() {
        check.about("2: z not in -1 to 6, too large");
        for (int z : TOO_LARGE_VARIABLES) {
            refusedFactor(1, 2, z);
        }
        acceptedFactor(1, 2, 6);
    }

    private static void xAndYTheSame() {
        check.about("2: two of its variables the same, x and y");
        for (int v = 0; v < 7; v++) {
            refusedFactor(v, v, -1);
            refusedFactor(v, v, (v + 1) % 7);
            refusedFactor(v, v, v);
        }
    }

    private static void xAndZTheSame() {
        check.about("2: two of its variables the same, x and z");
        for (int v = 0; v < 7; v++) {
            refusedFactor(v, (v + 1) % 7, v);
        }
    }

    private static void yAndZTheSame() {
        check.about("2: two of its variables the same, y and z");
        for (int v = 0; v < 7; v++) {
            refusedFactor((v + 1) % 7, v, v);
        }
    }

    private static void fullAtSeven() {
        check.about("2: there are seven: FULL");
        FactorGraph g = new FactorGraph();
        for (int f = 0; f < 7; f++) {
            due("factor " + f, g.factor(0, 1, 2), f);
        }
        due("an eighth of three", g.factor(0, 1, 2), FactorGraph.FULL);
        due("an eighth of two", g.factor(0, 1, -1), FactorGraph.FULL);
        due("an eighth of one", g.factor(0, -1, -1), FactorGraph.FULL);
        due("an eighth, z not looked at", g.factor(0, -1, 7), FactorGraph.FULL);
        due("weight(7, 0, 5)", g.weight(7, 0, 5), FactorGraph.BAD_FACTOR);
        due("drop()", g.drop(), 6);
    }

    private static void fullNoMoreAfterDrop() {
        check.about("2: FULL no more when there are six");
        FactorGraph g = nines();
        due("an eighth", g.factor(0, 1, 2), FactorGraph.FULL);
        due("drop()", g.drop(), 6);
        due("a seventh again", g.factor(3, -1, -1), 6);
        due("an eighth again", g.factor(3, -1, -1), FactorGraph.FULL);
        due("best()", g.best(), NINE_TO_THE_7TH / 9);
    }

    private static void refusedFactorChangesNothing() {
        check.about("2: nothing changes then");
        FactorGraph g = ramp();
        g.evidence(3, 1);
        due("factor(7, -1, -1)", g.factor(7, -1, -1), FactorGraph.BAD_VARIABLE);
        due("factor(0, 7, -1)", g.factor(0, 7, -1), FactorGraph.BAD_VARIABLE);
        due("factor(3, 4, 4)", g.factor(3, 4, 4), FactorGraph.BAD_VARIABLE);
        rampWithVariable3Fixed(g);

        FactorGraph full = new FactorGraph();
        for (int f = 0; f < 7; f++) {
            full.factor(f, -1, -1);
            full.weight(f, 1, 2);
        }
        due("factor(5, 4, 3)", full.factor(5, 4, 3), FactorGraph.FULL);
        due("total() when full", full.total(), 2187);
        for (int f = 6; f >= 0; f--) {
            due("weight of factor " + f, full.weight(f, 1, 2), 2);
            due("way beyond factor " + f, full.weight(f, 2, 2), FactorGraph.BAD_VALUE);
            due("drop()", full.drop(), f);
        }
    }

    private static void numberFrom0() {
        check.about("2: answers its number, from 0");
        FactorGraph g = new FactorGraph();
        for (int f = 0; f < 7; f++) {
            due("factor, after refusals", g.factor(7, 0, 1), FactorGraph.BAD_VARIABLE);
            due("factor " + f, g.factor(6 - f, -1, -1), f);
        }
        for (int left = 6; left >= 0; left--) {
            g.drop();
            due("factor after drop, " + left + " left", g.factor(0, -1, -1), left);
            g.drop();
        }
    }

    // ---- Promise 3

    private static void wayBits() {
        check.about("3: 'way' has the value of x in bit 0, of y in bit 1 and of z in bit 2");
        int[][] orders = {{0, 3, 6}, {0, 6, 3}, {3, 0, 6}, {3, 6, 0}, {6, 0, 3}, {6, 3, 0}};
        for (int[] order : orders) {
            for (int way = 0; way < 8; way++) {
                FactorGraph g = new FactorGraph();
                g.factor(order[0], order[1], order[2]);
                g.weight(0, way, 9);
                int mask = (way & 1) << order[0] | (way >> 1 & 1) << order[1] | (way >> 2) << order[2];
                due("bestAssignment() of way " + way, g.bestAssignment(), mask);
                due("total() of way " + way, g.total(), 112 + 16 * 9);
            }
        }
    }

    private static void noSuchFactorInNew() {
        check.about("3: No such factor, none at all");
        int[] factors = {MIN, -1, 0, 1, 6, 7, MAX};
        for (int f : factors) {
            due("weight(" + f + ", 0, 1)", new FactorGraph().weight(f, 0, 1), FactorGraph.BAD_FACTOR);
        }
    }

    private static void noSuchFactorTooSmall() {
        check.about("3: No such factor, too small");
        // -2^29 and -2^30: the places of 8 or 4 weights for each would wrap to 0.
        int[] factors = {-1, -2, -7, -(1 << 29), -(1 << 30), MIN};
        FactorGraph g = nines();
        for (int f : factors) {
            due("weight(" + f + ", 0, 1)", g.weight(f, 0, 1), FactorGraph.BAD_FACTOR);
        }
        due("weight(0, 0, 9)", g.weight(0, 0, 9), 9);
    }

    private static void noSuchFactorTooLarge() {
        check.about("3: No such factor, too large");
        int[] beyond = {8, 100, 1 << 29, 1 << 30, MAX};
        FactorGraph g = new FactorGraph();
        for (int count = 1; count <= 7; count++) {
            g.factor(0, 1, 2);
            due("weight(" + count + ", 0, 5) of " + count, g.weight(count, 0, 5), FactorGraph.BAD_FACTOR);
            for (int f : beyond) {
                due("weight(" + f + ", 0, 5) of " + count, g.weight(f, 0, 5), FactorGraph.BAD_FACTOR);
            }
            due("weight of the last of " + count, g.weight(count - 1, 0, 1), 1);
        }
    }

    private static void noSuchFactorDropped() {
        check.about("3: No such factor, dropped");
        FactorGraph g = nines();
        for (int left = 6; left >= 0; left--) {
            g.drop();
            due("weight(" + left + ", 0, 5)", g.weight(left, 0, 5), FactorGraph.BAD_FACTOR);
        }
    }

    private static void wayTooSmall() {
        check.about("3: way not in 0 to 2^k - 1, too small");
        int[] ways = {-1, -2, -8, MIN};
        for (int way : ways) {
            FactorGraph g = oneOfEachSize();
            for (int f = 0; f < 3; f++) {
                due("weight(" + f + ", " + way + ", 5)", g.weight(f, way, 5), FactorGraph.BAD_VALUE);
            }
        }
    }

    private static void wayTooLarge() {
        check.about("3: way not in 0 to 2^k - 1, too large");
        FactorGraph g = oneOfEachSize();
        for (int f = 0; f < 3; f++) {
            int[] ways = {2 << f, (2 << f) + 1, 8, 9, MAX};
            for (int way : ways) {
                due("weight(" + f + ", " + way + ", 5)", g.weight(f, way, 5), FactorGraph.BAD_VALUE);
            }
        }
    }

    private static void wayAtItsEnds() {
        check.about("3: way in 0 to 2^k - 1, its ends");
        FactorGraph g = oneOfEachSize();
        for (int f = 0; f < 3; f++) {
            int last = (2 << f) - 1;
            due("weight(" + f + ", 0, 5)", g.weight(f, 0, 5), 1);
            due("weight(" + f + ", " + last + ", 6)", g.weight(f, last, 6), 1);
            due("weight(" + f + ", 0, 1)", g.weight(f, 0, 1), 5);
            due("weight(" + f + ", " + last + ", 1)", g.weight(f, last, 1), 6);
        }
    }

    private static void weightTooSmall() {
        check.about("3: weight not in 0 to 9, too small");
        int[] weights = {-1, -2, -9, MIN};
        FactorGraph g = oneOfEachSize();
        for (int weight : weights) {
            for (int f = 0; f < 3; f++) {
                due("weight(" + f + ", 1, " + weight + ")", g.weight(f, 1, weight), FactorGraph.BAD_WEIGHT);
            }
        }
    }

    private static void weightTooLarge() {
        check.about("3: weight not in 0 to 9, too large");
        int[] weights = {10, 11, 16, 256, MAX};
        FactorGraph g = oneOfEachSize();
        for (int weight : weights) {
            for (int f = 0; f < 3; f++) {
                due("weight(" + f + ", 1, " + weight + ")", g.weight(f, 1, weight), FactorGraph.BAD_WEIGHT);
            }
        }
    }

    private static void weightAtItsEnds() {
        check.about("3: weight in 0 to 9, its ends");
        FactorGraph g = oneOfEachSize();
        for (int f = 0; f < 3; f++) {
            due("weight(" + f + ", 1, 0)", g.weight(f, 1, 0), 1);
            due("weight(" + f + ", 1, 9)", g.weight(f, 1, 9), 0);
            due("weight(" + f + ", 1, 1)", g.weight(f, 1, 1), 9);
        }
    }

    private static void refusedWeightChangesNothing() {
        check.about("3: nothing changes then");
        FactorGraph g = ramp();
        g.evidence(3, 1);
        due("weight(1, 0, 0)", g.weight(1, 0, 0), FactorGraph.BAD_FACTOR);
        due("weight(-1, 7, 0)", g.weight(-1, 7, 0), FactorGraph.BAD_FACTOR);
        due("weight(0, 8, 0)", g.weight(0, 8, 0), FactorGraph.BAD_VALUE);
        due("weight(0, -1, 0)", g.weight(0, -1, 0), FactorGraph.BAD_VALUE);
        due("weight(0, 0, 10)", g.weight(0, 0, 10), FactorGraph.BAD_WEIGHT);
        due("weight(0, 7, -1)", g.weight(0, 7, -1), FactorGraph.BAD_WEIGHT);
        rampWithVariable3Fixed(g);
    }

    private static void answersTheOldWeight() {
        check.about("3: Else answers the old weight");
        FactorGraph g = oneOfEachSize();
        int[] set = {5, 5, 0, 0, 9, 1, 8};
        for (int f = 0; f < 3; f++) {
            int old = 1;
            for (int weight : set) {
                due("weight(" + f + ", 1, " + weight + ")", g.weight(f, 1, weight), old);
                old = weight;
            }
            due("weight(" + f + ", 0, 1), its neighbour", g.weight(f, 0, 1), 1);
        }
    }

    // ---- Promise 4

    private static void fixesTo0() {
        check.about("4: Fixes a variable to 0");
        for (int v = 0; v < 7; v++) {
            FactorGraph g = new FactorGraph();
            due("evidence(" + v + ", 0)", g.evidence(v, 0), -1);
            due("possible()", g.possible(), 64);
            due("share(" + v + ")", g.share(v), 0);
            due("bestAssignment()", g.bestAssignment(), 0);
        }
    }

    private static void fixesTo1() {
        check.about("4: Fixes a variable to 1");
        for (int v = 0; v < 7; v++) {
            FactorGraph g = new FactorGraph();
            due("evidence(" + v + ", 1)", g.evidence(v, 1), -1);
            due("possible()", g.possible(), 64);
            due("share(" + v + ")", g.share(v), 64);
            due("bestAssignment()", g.bestAssignment(), 1 << v);
        }
    }

    private static void frees() {
        check.about("4: or frees it (-1)");
        for (int v = 0; v < 7; v++) {
            for (int value = -1; value <= 1; value++) {
                FactorGraph g = new FactorGraph();
                g.evidence(v, value);
                due("evidence(" + v + ", -1) of " + value, g.evidence(v, -1), value);
                due("possible()", g.possible(), 128);
                due("share(" + v + ")", g.share(v), 64);
                due("bestAssignment()", g.bestAssignment(), 0);
            }
        }
    }

    private static void evidenceVariableTooSmall() {
        check.about("4: variable not in 0 to 6, too small");
        for (int v : TOO_SMALL_VARIABLES) {
            refusedEvidence(v, -1, FactorGraph.BAD_VARIABLE);
            refusedEvidence(v, 0, FactorGraph.BAD_VARIABLE);
            refusedEvidence(v, 1, FactorGraph.BAD_VARIABLE);
        }
    }

    private static void evidenceVariableTooLarge() {
        check.about("4: variable not in 0 to 6, too large");
        for (int v : TOO_LARGE_VARIABLES) {
            refusedEvidence(v, -1, FactorGraph.BAD_VARIABLE);
            refusedEvidence(v, 0, FactorGraph.BAD_VARIABLE);
            refusedEvidence(v, 1, FactorGraph.BAD_VARIABLE);
        }
    }

    private static void evidenceVariableAtItsEnds() {
        check.about("4: variable in 0 to 6, its ends");
        FactorGraph g = new FactorGraph();
        due("evidence(0, 1)", g.evidence(0, 1), -1);
        due("evidence(6, 1)", g.evidence(6, 1), -1);
        due("bestAssignment()", g.bestAssignment(), 65);
        due("evidence(0, 0)", g.evidence(0, 0), 1);
        due("bestAssignment()", g.bestAssignment(), 64);
        due("evidence(6, 0)", g.evidence(6, 0), 1);
        due("bestAssignment()", g.bestAssignment(), 0);
    }

    private static void valueTooSmall() {
        check.about("4: value not in -1 to 1, too small");
        int[] values = {-2, -3, -128, MIN};
        for (int value : values) {
            for (int v = 0; v < 7; v++) {
                refusedEvidence(v, value, FactorGraph.BAD_VALUE);
            }
        }
    }

    private static void valueTooLarge() {
        check.about("4: value not in -1 to 1, too large");
        int[] values = {2, 3, 127, MAX};
        for (int value : values) {
            for (int v = 0; v < 7; v++) {
                refusedEvidence(v, value, FactorGraph.BAD_VALUE);
            }
        }
    }

    private static void refusedEvidenceChangesNothing() {
        check.about("4: nothing changes then");
        FactorGraph g = ramp();
        g.evidence(3, 1);
        due("evidence(3, 2)", g.evidence(3, 2), FactorGraph.BAD_VALUE);
        due("evidence(3, -2)", g.evidence(3, -2), FactorGraph.BAD_VALUE);
        due("evidence(0, 2)", g.evidence(0, 2), FactorGraph.BAD_VALUE);
        due("evidence(7, 1)", g.evidence(7, 1), FactorGraph.BAD_VARIABLE);
        due("evidence(-1, 0)", g.evidence(-1, 0), FactorGraph.BAD_VARIABLE);
        due("evidence(35, -1)", g.evidence(35, -1), FactorGraph.BAD_VARIABLE);
        rampWithVariable3Fixed(g);
    }

    private static void answersTheOldEvidence() {
        check.about("4: Else answers the old one");
        FactorGraph g = new FactorGraph();
        int[] set = {1, 1, 0, 0, 1, -1, 0, -1};
        for (int v = 0; v < 7; v++) {
            int old = -1;
            for (int value : set) {
                due("evidence(" + v + ", " + value + ")", g.evidence(v, value), old);
                old = value;
            }
        }
    }

    private static void oldEvidenceOfAFreeOne() {
        check.about("4: (-1 if it was free)");
        for (int v = 0; v < 7; v++) {
            FactorGraph g = new FactorGraph();
            fix(g, 0x7f);
            g.evidence(v, -1);
            due("evidence(" + v + ", -1), freed", g.evidence(v, -1), -1);
            due("evidence(" + v + ", 1), freed", g.evidence(v, 1), -1);
        }
    }

    // ---- Promise 5

    private static void takesTheLastOut() {
        check.about("5: Takes the last factor out");
        FactorGraph g = new FactorGraph();
        long[] totals = new long[8];
        totals[0] = 128;
        for (int f = 0; f < 7; f++) {
            g.factor(f, -1, -1);
            g.weight(f, 1, f + 3);
            totals[f + 1] = totals[f] / 2 * (f + 4);
        }
        for (int left = 7; left > 0; left--) {
            due("total() of " + left, g.total(), totals[left]);
            g.drop();
        }
        due("total() of none", g.total(), 128);
    }

    private static void dropOfNone() {
        check.about("5: There is none: BAD_FACTOR");
        FactorGraph g = new FactorGraph();
        due("drop() of a new one", g.drop(), FactorGraph.BAD_FACTOR);
        g.factor(0, 1, 2);
        due("drop() of one", g.drop(), 0);
        due("drop() when it is gone", g.drop(), FactorGraph.BAD_FACTOR);
        due("drop() once more", g.drop(), FactorGraph.BAD_FACTOR);
    }

    private static void dropOfNoneChangesNothing() {
        check.about("5: There is none, and nothing changes");
        FactorGraph g = new FactorGraph();
        g.evidence(2, 1);
        due("drop()", g.drop(), FactorGraph.BAD_FACTOR);
        due("drop() again", g.drop(), FactorGraph.BAD_FACTOR);
        due("total()", g.total(), 64);
        due("bestAssignment()", g.bestAssignment(), 4);
        due("evidence(2, -1)", g.evidence(2, -1), 1);
        for (int f = 0; f < 7; f++) {
            due("factor " + f, g.factor(0, 1, 2), f);
        }
        due("an eighth", g.factor(0, 1, 2), FactorGraph.FULL);
    }

    private static void howManyAreLeft() {
        check.about("5: Else answers how many are left");
        FactorGraph g = nines();
        for (int left = 6; left >= 0; left--) {
            due("drop()", g.drop(), left);
        }
    }

    // ---- Promises 6 to 8

    private static void totalAtMost() {
        check.about("6: (At most 128 * 9^7.)");
        due("total()", nines().total(), 128 * NINE_TO_THE_7TH);
    }

    private static void totalOfOneAllowed() {
        check.about("6: all allowed assignments, just one");
        FactorGraph g = ramp();
        for (int mask = 0; mask < 128; mask += 9) {
            fix(g, mask);
            due("total(), fixed to " + mask, g.total(), (mask & 7) + 2);
        }
    }

    private static void totalOfWorth0() {
        check.about("6: all allowed assignments, each worth 0");
        due("total()", worthless().total(), 0);
    }

    private static void shareOfAFixedVariable() {
        check.about("7: allowed assignments in which the variable is 1, where it is fixed");
        FactorGraph g = ramp();
        g.evidence(0, 0);
        due("share(0), fixed to 0", g.share(0), 0);
        due("share(1), 0 fixed to 0", g.share(1), 16 * (4 + 8));
        g.evidence(0, 1);
        due("share(0), fixed to 1", g.share(0), 16 * (3 + 5 + 7 + 9));
        due("share(1), 0 fixed to 1", g.share(1), 16 * (5 + 9));
    }

    private static void shareAtMost() {
        check.about("7: the greatest share");
        for (int v = 0; v < 7; v++) {
            due("share(" + v + ")", nines().share(v), 64 * NINE_TO_THE_7TH);
        }
        due("share(6), all worth 0", worthless().share(6), 0);
    }

    private static void shareTooSmall() {
        check.about("7: 0 if variable is not in 0 to 6, too small");
        for (int v : TOO_SMALL_VARIABLES) {
            due("share(" + v + ")", ramp().share(v), 0);
        }
        due("share(0)", ramp().share(0), 16 * (3 + 5 + 7 + 9));
    }

    private static void shareTooLarge() {
        check.about("7: 0 if variable is not in 0 to 6, too large");
        for (int v : TOO_LARGE_VARIABLES) {
            due("share(" + v + ")", ramp().share(v), 0);
        }
        due("share(6)", ramp().share(6), 8 * 44);
    }

    private static void alikeOfOneVariable() {
        check.about("8: both variables have the same value, where they are one");
        FactorGraph g = ramp();
        for (int v = 0; v < 7; v++) {
            due("alike(" + v + ", " + v + ")", g.alike(v, v), 16 * 44);
        }
        g.evidence(0, 0);
        due("alike(0, 0), fixed to 0", g.alike(0, 0), 16 * (2 + 4 + 6 + 8));
        g.evidence(0, 1);
        due("alike(0, 0), fixed to 1", g.alike(0, 0), 16 * (3 + 5 + 7 + 9));
    }

    private static void alikeOfFixedVariables() {
        check.about("8: both variables have the same value, where they are fixed");
        FactorGraph g = ramp();
        due("alike(0, 1), free", g.alike(0, 1), 16 * (2 + 5 + 6 + 9));
        int[] sums = {2 + 6, 0, 0, 5 + 9};
        for (int values = 0; values < 4; values++) {
            g.evidence(0, values & 1);
            g.evidence(1, values >> 1);
            due("alike(0, 1), fixed to " + values, g.alike(0, 1), 16 * sums[values]);
            due("alike(1, 0), fixed to " + values, g.alike(1, 0), 16 * sums[values]);
        }
    }

    private static void alikeAtMost() {
        check.about("8: the greatest sum");
        FactorGraph g = nines();
        due("alike(0, 6)", g.alike(0, 6), 64 * NINE_TO_THE_7TH);
        due("alike(6, 6)", g.alike(6, 6), 128 * NINE_TO_THE_7TH);
        due("alike(5, 6), all worth 0", worthless().alike(5, 6), 0);
    }

    private static void alikeFirstOutside() {
        check.about("8: 0 if one is not in 0 to 6, the first");
        for (int a : TOO_SMALL_VARIABLES) {
            due("alike(" + a + ", 0)", ramp().alike(a, 0), 0);
            due("alike(" + a + ", 6)", ramp().alike(a, 6), 0);
        }
        for (int a : TOO_LARGE_VARIABLES) {
            due("alike(" + a + ", 0)", ramp().alike(a, 0), 0);
            due("alike(" + a + ", 6)", ramp().alike(a, 6), 0);
        }
    }

    private static void alikeSecondOutside() {
        check.about("8: 0 if one is not in 0 to 6, the second");
        for (int b : TOO_SMALL_VARIABLES) {
            due("alike(0, " + b + ")", ramp().alike(0, b), 0);
            due("alike(6, " + b + ")", ramp().alike(6, b), 0);
        }
        for (int b : TOO_LARGE_VARIABLES) {
            due("alike(0, " + b + ")", ramp().alike(0, b), 0);
            due("alike(6, " + b + ")", ramp().alike(6, b), 0);
        }
    }

    private static void alikeBothOutside() {
        check.about("8: 0 if one is not in 0 to 6, both");
        for (int a : TOO_SMALL_VARIABLES) {
            due("alike(" + a + ", " + a + ")", ramp().alike(a, a), 0);
            due("alike(" + a + ", 7)", ramp().alike(a, 7), 0);
        }
        for (int a : TOO_LARGE_VARIABLES) {
            due("alike(" + a + ", " + a + ")", ramp().alike(a, a), 0);
            due("alike(" + a + ", -1)", ramp().alike(a, -1), 0);
        }
    }

    // ---- Promises 9 to 11

    private static void bestAtMost() {
        check.about("9: The greatest worth, at most 9 to the 7th");
        due("best()", nines().best(), NINE_TO_THE_7TH);
        FactorGraph g = new FactorGraph();
        for (int f = 0; f < 7; f++) {
            g.factor(f, -1, -1);
            g.weight(f, 1, 9);
        }
        due("best(), of 127 alone", g.best(), NINE_TO_THE_7TH);
        due("bestAssignment()", g.bestAssignment(), 127);
    }

    private static void bestOfOneAllowed() {
        check.about("9: The greatest worth, where one is allowed");
        FactorGraph g = ramp();
        for (int mask = 0; mask < 128; mask += 9) {
            fix(g, mask);
            due("best(), fixed to " + mask, g.best(), (mask & 7) + 2);
            due("bestAssignment(), fixed to " + mask, g.bestAssignment(), mask);
        }
    }

    private static void bestOfWorth0() {
        check.about("9: The greatest worth, where each is worth 0");
        FactorGraph g = worthless();
        due("best()", g.best(), 0);
        g.evidence(5, 1);
        due("best() under evidence", g.best(), 0);
    }

    private static void bestIsOfAllowedOnes() {
        check.about("9: of an allowed assignment");
        FactorGraph g = ramp();
        due("best()", g.best(), 9);
        g.evidence(0, 0);
        due("best(), 0 fixed to 0", g.best(), 8);
        g.evidence(1, 0);
        due("best(), 0 and 1 fixed to 0", g.best(), 6);
        g.evidence(2, 0);
        due("best(), 0, 1 and 2 fixed to 0", g.best(), 2);
    }

    private static void smallestOfEqualWorth() {
        check.about("10: that is smallest as a mask");
        due("bestAssignment(), all worth 1", new FactorGraph().bestAssignment(), 0);
        due("bestAssignment(), all worth 9^7", nines().bestAssignment(), 0);
        for (int way = 0; way < 7; way++) {
            FactorGraph g = new FactorGraph();
            g.factor(2, 4, 6);
            g.weight(0, 7, 8);
            g.weight(0, way, 8);
            int mask = (way & 1) << 2 | (way >> 1 & 1) << 4 | (way >> 2) << 6;
            due("bestAssignment(), ways " + way + " and 7", g.bestAssignment(), mask);
        }
    }

    private static void smallestWhereAllAreWorth0() {
        check.about("10: that is smallest as a mask, where each is worth 0");
        FactorGraph g = worthless();
        due("bestAssignment(), all free", g.bestAssignment(), 0);
        for (int v = 0; v < 7; v++) {
            g.evidence(v, 1);
            due("bestAssignment(), " + v + " fixed to 1", g.bestAssignment(), 1 << v);
            g.evidence(v, -1);
        }
        fix(g, 127);
        due("bestAssignment(), all fixed to 1", g.bestAssignment(), 127);
    }

    private static void smallestIsOfAllowedOnes() {
        check.about("10: The allowed assignment");
        FactorGraph g = ramp();
        due("bestAssignment()", g.bestAssignment(), 7);
        g.evidence(0, 0);
        due("bestAssignment(), 0 fixed to 0", g.bestAssignment(), 6);
        g.evidence(2, 0);
        due("bestAssignment(), 2 fixed to 0", g.bestAssignment(), 2);
        g.evidence(6, 1);
        due("bestAssignment(), 6 fixed to 1", g.bestAssignment(), 66);
    }

    private static void bitVIsVariableV() {
        check.about("10: (bit v is the value of variable v)");
        for (int v = 0; v < 7; v++) {
            FactorGraph g = new FactorGraph();
            g.factor(v, -1, -1);
            g.weight(0, 0, 0);
            due("bestAssignment() of variable " + v, g.bestAssignment(), 1 << v);
            FactorGraph others = new FactorGraph();
            fix(others, 127);
            others.evidence(v, 0);
            due("bestAssignment() without " + v, others.bestAssignment(), 127 - (1 << v));
        }
    }

    private static void possibleAtItsEnds() {
        check.about("11: How many, none and all");
        due("possible(), all worth 0", worthless().possible(), 0);
        due("possible(), new", new FactorGraph().possible(), 128);
        due("possible(), all worth 9^7", nines().possible(), 128);
        FactorGraph g = new FactorGraph();
        fix(g, 127);
        due("possible(), all fixed", g.possible(), 1);
        g.factor(6, -1, -1);
        g.weight(0, 1, 0);
        due("possible(), all fixed, worth 0", g.possible(), 0);
    }

    private static void possibleIsAbove0() {
        check.about("11: a worth above 0");
        FactorGraph g = ramp();
        for (int way = 0; way < 8; way++) {
            g.weight(0, way, 0);
            due("possible(), ways up to " + way + " are 0", g.possible(), 128 - 16 * (way + 1));
        }
        g.weight(0, 5, 1);
        due("possible(), one way is 1", g.possible(), 16);
        g.factor(6, -1, -1);
        g.weight(1, 0, 0);
        due("possible(), beside a second 0", g.possible(), 8);
    }

    private static void possibleIsOfAllowedOnes() {
        check.about("11: How many allowed assignments");
        FactorGraph g = ramp();
        g.weight(0, 7, 0);
        due("possible()", g.possible(), 112);
        g.evidence(0, 1);
        due("possible(), 0 fixed to 1", g.possible(), 48);
        g.evidence(1, 1);
        due("possible(), 1 fixed to 1", g.possible(), 16);
        g.evidence(2, 1);
        due("possible(), 2 fixed to 1", g.possible(), 0);
    }

    // ---- Promise 12

    private static void independentFirstOutside() {
        check.about("12: true if a is not in 0 to 6");
        for (int a : TOO_SMALL_VARIABLES) {
            trueOutside("a is " + a, a, 0);
            trueOutside("a is " + a, a, 6);
        }
        for (int a : TOO_LARGE_VARIABLES) {
            trueOutside("a is " + a, a, 0);
            trueOutside("a is " + a, a, 6);
        }
    }

    private static void independentSecondOutside() {
        check.about("12: true if b is not in 0 to 6");
        for (int b : TOO_SMALL_VARIABLES) {
            trueOutside("b is " + b, 0, b);
            trueOutside("b is " + b, 6, b);
        }
        for (int b : TOO_LARGE_VARIABLES) {
            trueOutside("b is " + b, 0, b);
            trueOutside("b is " + b, 6, b);
        }
    }

    private static void independentBothOutside() {
        check.about("12: true if neither is in 0 to 6");
        for (int a : TOO_SMALL_VARIABLES) {
            trueOutside("both are " + a, a, a);
            trueOutside("a is " + a + ", b is 7", a, 7);
        }
        for (int a : TOO_LARGE_VARIABLES) {
            trueOutside("both are " + a, a, a);
            trueOutside("a is " + a + ", b is -1", a, -1);
        }
    }

    /** In this graph any two variables depend on each other, so only the range can make it true. */
    private static void trueOutside(String when, int a, int b) {
        FactorGraph g = new FactorGraph();
        for (int v = 0; v < 6; v++) {
            g.factor(v, v + 1, -1);
            g.weight(v, 0, 3);
            g.weight(v, 3, 3);
        }
        due("independent, " + when, g.independent(a, b), true);
        due("independent(0, 6)", g.independent(0, 6), false);
    }

    private static void independentOfOneVariable() {
        check.about("12: a and b, where they are one");
        FactorGraph g = ramp();
        for (int v = 0; v < 7; v++) {
            due("independent(" + v + ", " + v + ")", g.independent(v, v), false);
        }
        // With one value left, total * share is share * share, or both are 0.
        g.weight(0, 1, 0);
        g.weight(0, 3, 0);
        g.weight(0, 5, 0);
        g.weight(0, 7, 0);
        due("independent(0, 0), never 1", g.independent(0, 0), true);
        g.evidence(6, 1);
        due("independent(6, 6), always 1", g.independent(6, 6), true);
    }

    private static void independentOfFixedVariables() {
        check.about("12: a and b, where one is fixed");
        FactorGraph g = ramp();
        due("independent(0, 1), free", g.independent(0, 1), false);
        for (int value = 0; value <= 1; value++) {
            g.evidence(0, value);
            due("independent(0, 1), 0 fixed to " + value, g.independent(0, 1), true);
            due("independent(1, 0), 0 fixed to " + value, g.independent(1, 0), true);
            due("independent(0, 0), 0 fixed to " + value, g.independent(0, 0), true);
            due("independent(1, 1), 0 fixed to " + value, g.independent(1, 1), false);
        }
    }

    private static void independentWithoutWorth() {
        check.about("12: total times .. is the product, where all are 0");
        FactorGraph g = worthless();
        for (int a = 0; a < 7; a++) {
            for (int b = 0; b < 7; b++) {
                due("independent(" + a + ", " + b + ")", g.independent(a, b), true);
            }
        }
    }

    private static void independentOverTheAllowed() {
        check.about("12: over the allowed assignments");
        // 0 and 1 are alike where 2 is 1, and have nothing to do with each other where it is 0.
        FactorGraph g = new FactorGraph();
        g.factor(0, 1, 2);
        g.weight(0, 5, 0);
        g.weight(0, 6, 0);
        due("independent(0, 1), 2 free", g.independent(0, 1), false);
        g.evidence(2, 0);
        due("independent(0, 1), 2 fixed to 0", g.independent(0, 1), true);
        g.evidence(2, 1);
        due("independent(0, 1), 2 fixed to 1", g.independent(0, 1), false);
    }

    private static void independentIsExact() {
        check.about("12: is the product, at the least numbers");
        FactorGraph g = new FactorGraph();
        g.factor(0, 1, -1);
        fix(g, 0);
        g.evidence(0, -1);
        g.evidence(1, -1);
        due("independent(0, 1), 4 * 1 and 2 * 2", g.independent(0, 1), true);
        // As quotients in whole numbers, 0 and 1 / 3 would be the same.
        g.weight(0, 3, 0);
        due("independent(0, 1), 3 * 0 and 1 * 1", g.independent(0, 1), false);
        g.weight(0, 0, 0);
        due("independent(0, 1), 2 * 0 and 1 * 1", g.independent(0, 1), false);
        g.weight(0, 2, 0);
        due("independent(0, 1), 1 * 0 and 1 * 0", g.independent(0, 1), true);
    }

    private static void numbersBelow2ToThe63() {
        check.about("12: All numbers here stay below 2^63");
        FactorGraph g = nines();
        due("independent(0, 1)", g.independent(0, 1), true);
        due("independent(0, 6)", g.independent(0, 6), true);
        due("independent(6, 6)", g.independent(6, 6), false);
        // Least difference at the greatest numbers: one weight of one factor.
        g.weight(6, 7, 8);
        due("independent(0, 1), one weight is 8", g.independent(0, 1), false);
        due("independent(0, 6), one weight is 8", g.independent(0, 6), true);
        // The products differ by 2^52 - 2^45: the last 32 bits are the same.
        FactorGraph wide = new FactorGraph();
        for (int f = 0; f < 7; f++) {
            wide.factor(0, 1, -1);
            for (int way = 0; way < 4; way++) {
                wide.weight(f, way, way == 3 ? 4 : 8);
            }
        }
        due("independent(0, 1), beyond 32 bits", wide.independent(0, 1), false);
    }

    // ---- Promise 13

    private static void badVariableBeforeFull() {
        check.about("13: factor: BAD_VARIABLE is tested before FULL");
        FactorGraph g = nines();
        int[][] bad = {
            {-1, -1, -1}, {7, -1, -1}, {7, 0, 1}, {0, -2, -1}, {0, 7, -1}, {0, 7, 1}, {0, 1, -2}, {0, 1, 7},
            {0, 0, -1}, {0, 0, 1}, {0, 1, 0}, {0, 1, 1}, {0, 0, 0}
        };
        for (int[] v : bad) {
            String call = "factor(" + v[0] + ", " + v[1] + ", " + v[2] + ")";
            due(call, g.factor(v[0], v[1], v[2]), FactorGraph.BAD_VARIABLE);
        }
        due("factor(0, 1, 2)", g.factor(0, 1, 2), FactorGraph.FULL);
        due("best()", g.best(), NINE_TO_THE_7TH);
        due("drop()", g.drop(), 6);
    }

    private static void badFactorBeforeBadValue() {
        check.about("13: weight: BAD_FACTOR before BAD_VALUE");
        FactorGraph g = oneOfEachSize();
        int[] factors = {-1, 3};
        int[] ways = {-1, 8};
        for (int f : factors) {
            for (int way : ways) {
                due("weight(" + f + ", " + way + ", 5)", g.weight(f, way, 5), FactorGraph.BAD_FACTOR);
                due("weight(" + f + ", " + way + ", 10)", g.weight(f, way, 10), FactorGraph.BAD_FACTOR);
            }
        }
        due("weight(0, 8, 5) of a new one", new FactorGraph().weight(0, 8, 5), FactorGraph.BAD_FACTOR);
    }

    private static void badFactorBeforeBadWeight() {
        check.about("13: weight: BAD_FACTOR before BAD_WEIGHT");
        FactorGraph g = oneOfEachSize();
        int[] factors = {-1, 3};
        int[] weights = {-1, 10};
        for (int f : factors) {
            for (int weight : weights) {
                due("weight(" + f + ", 0, " + weight + ")", g.weight(f, 0, weight), FactorGraph.BAD_FACTOR);
            }
        }
        due("weight(0, 0, 10) of a new one", new FactorGraph().weight(0, 0, 10), FactorGraph.BAD_FACTOR);
    }

    private static void badValueBeforeBadWeight() {
        check.about("13: weight: BAD_VALUE before BAD_WEIGHT");
        FactorGraph g = oneOfEachSize();
        int[] weights = {-1, 10};
        for (int f = 0; f < 3; f++) {
            for (int weight : weights) {
                due("weight(" + f + ", -1, " + weight + ")", g.weight(f, -1, weight), FactorGraph.BAD_VALUE);
                int beyond = 2 << f;
                due("weight(" + f + ", " + beyond + ", " + weight + ")", g.weight(f, beyond, weight), FactorGraph.BAD_VALUE);
            }
        }
    }

    private static void badVariableBeforeBadValue() {
        check.about("13: evidence: BAD_VARIABLE before BAD_VALUE");
        int[] variables = {-1, 7};
        int[] values = {-2, 2};
        for (int v : variables) {
            for (int value : values) {
                refusedEvidence(v, value, FactorGraph.BAD_VARIABLE);
            }
        }
    }

    // ---- What the methods above share

    private static void due(String what, long got, long want) {
        check.due(what, got, want);
    }

    private static void due(String what, boolean got, boolean want) {
        check.due(what, got, want);
    }

    private static void refusedFactor(int x, int y, int z) {
        FactorGraph g = new FactorGraph();
        String call = "factor(" + x + ", " + y + ", " + z + ")";
        due(call, g.factor(x, y, z), FactorGraph.BAD_VARIABLE);
        due("drop() after " + call, g.drop(), FactorGraph.BAD_FACTOR);
    }

    private static void acceptedFactor(int x, int y, int z) {
        FactorGraph g = new FactorGraph();
        due("factor(" + x + ", " + y + ", " + z + ")", g.factor(x, y, z), 0);
        due("weight(0, 7, 9)", g.weight(0, 7, 9), 1);
        due("bestAssignment()", g.bestAssignment(), 1 << x | 1 << y | 1 << z);
    }

    private static void refusedEvidence(int variable, int value, int due) {
        FactorGraph g = new FactorGraph();
        fix(g, 0x35);
        String call = "evidence(" + variable + ", " + value + ")";
        due(call, g.evidence(variable, value), due);
        due("possible() after " + call, g.possible(), 1);
        due("bestAssignment() after " + call, g.bestAssignment(), 0x35);
    }

    /** One factor over 0, 1 and 2 with the weights 2 to 9, which sum to 44. */
    private static FactorGraph ramp() {
        FactorGraph g = new FactorGraph();
        g.factor(0, 1, 2);
        for (int way = 0; way < 8; way++) {
            g.weight(0, way, way + 2);
        }
        return g;
    }

    private static void rampWithVariable3Fixed(FactorGraph g) {
        due("total()", g.total(), 8 * 44);
        due("share(0)", g.share(0), 8 * (3 + 5 + 7 + 9));
        due("share(3)", g.share(3), 8 * 44);
        due("alike(0, 1)", g.alike(0, 1), 8 * (2 + 5 + 6 + 9));
        due("best()", g.best(), 9);
        due("bestAssignment()", g.bestAssignment(), 15);
        due("possible()", g.possible(), 64);
        due("independent(0, 1)", g.independent(0, 1), false);
        due("independent(3, 3)", g.independent(3, 3), true);
        for (int v = 0; v < 7; v++) {
            due("evidence(" + v + ", -1)", g.evidence(v, -1), v == 3 ? 1 : -1);
        }
        for (int way = 0; way < 8; way++) {
            due("weight(0, " + way + ", 1)", g.weight(0, way, 1), way + 2);
        }
        due("factor(4, 5, 6)", g.factor(4, 5, 6), 1);
        due("weight(1, 0, 1)", g.weight(1, 0, 1), 1);
        due("drop()", g.drop(), 1);
        due("drop()", g.drop(), 0);
        due("drop()", g.drop(), FactorGraph.BAD_FACTOR);
    }

    private static FactorGraph oneOfEachSize() {
        FactorGraph g = new FactorGraph();
        g.factor(5, -1, -1);
        g.factor(5, 3, -1);
        g.factor(5, 3, 1);
        return g;
    }

    /** Seven factors whose weights are all 9. */
    private static FactorGraph nines() {
        FactorGraph g = new FactorGraph();
        for (int f = 0; f < 7; f++) {
            g.factor(0, 1, 2);
            for (int way = 0; way < 8; way++) {
                g.weight(f, way, 9);
            }
        }
        return g;
    }

    /** Two factors, the second of which makes every assignment worth 0. */
    private static FactorGraph worthless() {
        FactorGraph g = new FactorGraph();
        g.factor(0, -1, -1);
        g.weight(0, 1, 9);
        g.factor(4, -1, -1);
        g.weight(1, 0, 0);
        g.weight(1, 1, 0);
        return g;
    }

    private static void fix(FactorGraph g, int mask) {
        for (int v = 0; v < 7; v++) {
            g.evidence(v, (mask >> v) & 1);
        }
    }
}
