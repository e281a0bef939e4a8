import java.util.ArrayList;
import java.util.List;
import java.util.function.Consumer;
import java.util.function.ToLongFunction;

/**
 * "A call that is refused ... changes nothing" and "The calls below change
 * nothing that any call answers": in states of many kinds, each refused call and
 * each question is made on the graph alone, and every later call must answer as
 * the model does, which has not had it. Each kind of later call comes first once.
 */
public final class RefusalTest {
    private static final int MIN = Integer.MIN_VALUE;
    private static final int MAX = Integer.MAX_VALUE;
    // 32 shifts as 0 does; a factor's places, 8 or 3 for each, wrap to 0 at 2^29 and 2^30.
    private static final int[] NOT_VARIABLES = {-1, 7, 32, MIN, MAX};
    private static final int[] NOT_FACTORS = {-1, 7, 1 << 29, 1 << 30, MIN, MAX};
    private static final int[] NOT_VALUES = {-2, 2, MIN, MAX};
    private static final int[] NOT_WEIGHTS = {-1, 10, MIN, MAX};

    private record Call(String text, ToLongFunction<FactorGraph> made, long due) {}

    private record State(String name, Consumer<Twin> build) {
        Twin twin(Check check) {
            Twin twin = new Twin(check, name);
            build.accept(twin);
            return twin;
        }
    }

    private static final List<State> STATES = List.of(
        new State("new", twin -> {}),
        new State("no factor left", RefusalTest::noFactorLeft),
        new State("one factor of each size", RefusalTest::oneOfEachSize),
        new State("six factors, seventh dropped", RefusalTest::seventhDropped),
        new State("full", RefusalTest::full),
        new State("full of nines", RefusalTest::fullOfNines),
        new State("all fixed", RefusalTest::allFixed),
        new State("all worth 0", RefusalTest::allWorth0));

    private static final List<Consumer<Twin>> LATER = List.of(
        RefusalTest::askSums,
        RefusalTest::askBest,
        RefusalTest::askIndependent,
        RefusalTest::setWeights,
        RefusalTest::setEvidence,
        RefusalTest::addFactors,
        RefusalTest::dropFactors);

    public static void main(String[] args) {
        Check check = new Check();
        int made = 0;
        for (State state : STATES) {
            Model model = state.twin(check).model;
            List<Call> calls = refused(model);
            calls.addAll(questions(model));
            for (Call call : calls) {
                changesNothing(check, state, call);
            }
            made += calls.size();
        }
        System.out.println(made + " calls that change nothing");
        check.end();
    }

    private static void changesNothing(Check check, State state, Call call) {
        for (int first = 0; first < LATER.size(); first++) {
            Twin twin = state.twin(check);
            twin.graphAlone(call.text, call.made.applyAsLong(twin.graph), call.due);
            for (int i = 0; i < LATER.size(); i++) {
                LATER.get((first + i) % LATER.size()).accept(twin);
            }
        }
    }

    private static List<Call> refused(Model model) {
        List<Call> calls = new ArrayList<>();
        refusedFactors(calls, model);
        refusedWeights(calls, model);
        refusedEvidence(calls);
        if (model.factors() == 0) {
            calls.add(new Call("drop()", g -> g.drop(), FactorGraph.BAD_FACTOR));
        }
        for (int bad : NOT_VARIABLES) {
            calls.add(new Call("share(" + bad + ")", g -> g.share(bad), 0));
            calls.add(new Call("alike(" + bad + ", 1)", g -> g.alike(bad, 1), 0));
            calls.add(new Call("alike(1, " + bad + ")", g -> g.alike(1, bad), 0));
            calls.add(new Call("independent(" + bad + ", 1)", g -> g.independent(bad, 1) ? 1 : 0, 1));
            calls.add(new Call("independent(1, " + bad + ")", g -> g.independent(1, bad) ? 1 : 0, 1));
        }
        return calls;
    }

    private static void refusedFactors(List<Call> calls, Model model) {
        for (int bad : NOT_VARIABLES) {
            addFactorCall(calls, bad, -1, -1, FactorGraph.BAD_VARIABLE);
            addFactorCall(calls, bad, 5, 6, FactorGraph.BAD_VARIABLE);
            if (bad != -1) {
                addFactorCall(calls, 4, bad, -1, FactorGraph.BAD_VARIABLE);
                addFactorCall(calls, 4, bad, 6, FactorGraph.BAD_VARIABLE);
                addFactorCall(calls, 4, 5, bad, FactorGraph.BAD_VARIABLE);
            }
        }
        addFactorCall(calls, 4, -2, -1, FactorGraph.BAD_VARIABLE);
        addFactorCall(calls, 4, 5, -2, FactorGraph.BAD_VARIABLE);
        addFactorCall(calls, 4, 4, -1, FactorGraph.BAD_VARIABLE);
        addFactorCall(calls, 4, 4, 5, FactorGraph.BAD_VARIABLE);
        addFactorCall(calls, 4, 5, 4, FactorGraph.BAD_VARIABLE);
        addFactorCall(calls, 5, 4, 4, FactorGraph.BAD_VARIABLE);
        addFactorCall(calls, 4, 4, 4, FactorGraph.BAD_VARIABLE);
        if (model.factors() == 7) {
            addFactorCall(calls, 4, -1, -1, FactorGraph.FULL);
            addFactorCall(calls, 4, -1, 4, FactorGraph.FULL);
            addFactorCall(calls, 4, 5, -1, FactorGraph.FULL);
            addFactorCall(calls, 4, 5, 6, FactorGraph.FULL);
        }
    }

    private static void refusedWeights(List<Call> calls, Model model) {
        for (int bad : NOT_FACTORS) {
            addWeightCall(calls, bad, 0, 5, FactorGraph.BAD_FACTOR);
            addWeightCall(calls, bad, 8, 10, FactorGraph.BAD_FACTOR);
        }
        for (int f = model.factors(); f < 7; f++) {
            addWeightCall(calls, f, 1, 5, FactorGraph.BAD_FACTOR);
        }
        for (int f = 0; f < model.factors(); f++) {
            int ways = model.ways(f);
            for (int way : new int[] {-1, ways, 8, MIN, MAX}) {
                addWeightCall(calls, f, way, 5, FactorGraph.BAD_VALUE);
            }
            addWeightCall(calls, f, ways, 10, FactorGraph.BAD_VALUE);
            for (int weight : NOT_WEIGHTS) {
                addWeightCall(calls, f, 0, weight, FactorGraph.BAD_WEIGHT);
                addWeightCall(calls, f, ways - 1, weight, FactorGraph.BAD_WEIGHT);
            }
        }
    }

    private static void refusedEvidence(List<Call> calls) {
        for (int bad : NOT_VARIABLES) {
            for (int value = -1; value <= 2; value++) {
                addEvidenceCall(calls, bad, value, FactorGraph.BAD_VARIABLE);
            }
        }
        for (int v = 0; v < 7; v++) {
            for (int bad : NOT_VALUES) {
                addEvidenceCall(calls, v, bad, FactorGraph.BAD_VALUE);
            }
        }
    }

    private static void addFactorCall(List<Call> calls, int x, int y, int z, int due) {
        calls.add(new Call("factor(" + x + ", " + y + ", " + z + ")", g -> g.factor(x, y, z), due));
    }

    private static void addWeightCall(List<Call> calls, int f, int way, int weight, int due) {
        calls.add(new Call("weight(" + f + ", " + way + ", " + weight + ")", g -> g.weight(f, way, weight), due));
    }

    private static void addEvidenceCall(List<Call> calls, int v, int value, int due) {
        calls.add(new Call("evidence(" + v + ", " + value + ")", g -> g.evidence(v, value), due));
    }

    private static List<Call> questions(Model model) {
        List<Call> calls = new ArrayList<>();
        calls.add(new Call("total()", g -> g.total(), model.total()));
        calls.add(new Call("best()", g -> g.best(), model.best()));
        calls.add(new Call("bestAssignment()", g -> g.bestAssignment(), model.bestAssignment()));
        calls.add(new Call("possible()", g -> g.possible(), model.possible()));
        for (int v = 0; v < 7; v++) {
            int a = v;
            int b = (v + 1) % 7;
            String pair = "(" + a + ", " + b + ")";
            calls.add(new Call("share(" + a + ")", g -> g.share(a), model.share(a)));
            calls.add(new Call("alike" + pair, g -> g.alike(a, b), model.alike(a, b)));
            calls.add(new Call("independent" + pair, g -> g.independent(a, b) ? 1 : 0, model.independent(a, b) ? 1 : 0));
        }
        return calls;
    }

    private static void noFactorLeft(Twin twin) {
        oneOfEachSize(twin);
        twin.drop();
        twin.drop();
        twin.drop();
    }

    private static void oneOfEachSize(Twin twin) {
        twin.factor(4, -1, -1);
        twin.factor(2, 0, -1);
        twin.factor(6, 4, 1);
        weigh(twin, 2, 6);
        twin.evidence(3, 1);
        twin.evidence(5, 0);
    }

    private static void seventhDropped(Twin twin) {
        full(twin);
        twin.drop();
    }

    private static void full(Twin twin) {
        for (int f = 0; f < 7; f++) {
            int y = f % 3 == 0 ? -1 : (f + 2) % 7;
            int z = f % 3 == 1 ? -1 : (f + 5) % 7;
            twin.factor(f, y, z);
        }
        weigh(twin, 1, 9);
        twin.evidence(4, 1);
    }

    private static void fullOfNines(Twin twin) {
        for (int f = 0; f < 7; f++) {
            twin.factor(f, (f + 1) % 7, (f + 3) % 7);
        }
        weigh(twin, 9, 1);
    }

    private static void allFixed(Twin twin) {
        oneOfEachSize(twin);
        for (int v = 0; v < 7; v++) {
            twin.evidence(v, v % 2);
        }
    }

    private static void allWorth0(Twin twin) {
        oneOfEachSize(twin);
        twin.weight(0, 0, 0);
        twin.weight(0, 1, 0);
    }

    /** Weights from the lowest on, so many different ones, over all ways. */
    private static void weigh(Twin twin, int lowest, int different) {
        int next = 0;
        for (int f = 0; f < twin.model.factors(); f++) {
            for (int way = 0; way < twin.model.ways(f); way++) {
                twin.weight(f, way, lowest + next % different);
                next += 4;
            }
        }
    }

    private static void askSums(Twin twin) {
        twin.total();
        for (int a = 0; a < 7; a++) {
            twin.share(a);
            for (int b = 0; b <= a; b++) {
                twin.alike(a, b);
            }
        }
    }

    private static void askBest(Twin twin) {
        twin.best();
        twin.bestAssignment();
        twin.possible();
    }

    private static void askIndependent(Twin twin) {
        for (int a = 0; a < 7; a++) {
            for (int b = 0; b <= a; b++) {
                twin.independent(a, b);
            }
        }
    }

    private static void setWeights(Twin twin) {
        for (int f = 0; f < twin.model.factors(); f++) {
            for (int way = 0; way < twin.model.ways(f); way++) {
                twin.weight(f, way, (f * 5 + way * 3) % 9 + 1);
            }
        }
        twin.total();
    }

    private static void setEvidence(Twin twin) {
        for (int v = 0; v < 7; v++) {
            twin.evidence(v, v % 3 - 1);
            twin.total();
            twin.evidence(v, -1);
        }
        twin.evidence(0, 1);
    }

    private static void addFactors(Twin twin) {
        for (int f = 0; f < 8; f++) {
            twin.factor((f * 3) % 7, f % 2 == 0 ? (f * 3 + 1) % 7 : -1, (f * 3 + 4) % 7);
            twin.total();
        }
        askBest(twin);
    }

    private static void dropFactors(Twin twin) {
        for (int f = 0; f < 8; f++) {
            twin.drop();
            twin.total();
            twin.bestAssignment();
        }
        // What a refused call left behind in a place would show in its next factor.
        for (int f = 0; f < 7; f++) {
            twin.factor(f, (f + 1) % 7, (f + 3) % 7);
            twin.weight(f, f, 2);
        }
        askBest(twin);
        twin.share(3);
    }
}
