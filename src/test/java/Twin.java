/** A FactorGraph and a Model that get the same calls; their answers are compared. */
final class Twin {
    /** The document promises nothing about an object after so many calls. */
    static final int MOST_CALLS = 512;

    final FactorGraph graph = new FactorGraph();
    final Model model = new Model();
    private final Check check;
    private String name;
    private int calls = 0;

    Twin(Check check, String name) {
        this.check = check;
        this.name = name;
    }

    void factor(int x, int y, int z) {
        due("factor(" + x + ", " + y + ", " + z + ")", graph.factor(x, y, z), model.factor(x, y, z));
    }

    void weight(int f, int way, int w) {
        due("weight(" + f + ", " + way + ", " + w + ")", graph.weight(f, way, w), model.weight(f, way, w));
    }

    void evidence(int v, int value) {
        due("evidence(" + v + ", " + value + ")", graph.evidence(v, value), model.evidence(v, value));
    }

    void drop() {
        due("drop()", graph.drop(), model.drop());
    }

    void total() {
        due("total()", graph.total(), model.total());
    }

    void share(int v) {
        due("share(" + v + ")", graph.share(v), model.share(v));
    }

    void alike(int a, int b) {
        due("alike(" + a + ", " + b + ")", graph.alike(a, b), model.alike(a, b));
    }

    void best() {
        due("best()", graph.best(), model.best());
    }

    void bestAssignment() {
        due("bestAssignment()", graph.bestAssignment(), model.bestAssignment());
    }

    void possible() {
        due("possible()", graph.possible(), model.possible());
    }

    void independent(int a, int b) {
        due("independent(" + a + ", " + b + ")", graph.independent(a, b) ? 1 : 0, model.independent(a, b) ? 1 : 0);
    }

    /** A call that the graph alone has had: from here on the model is as if it had not been made. */
    void graphAlone(String call, long got, long want) {
        due(call, got, want);
        name = name + ", after " + call;
    }

    private void due(String call, long got, long want) {
        calls++;
        if (calls > MOST_CALLS) {
            throw new IllegalStateException(name + ": the test makes more calls than the document allows");
        }
        check.due(name + ": " + call, got, want);
    }
}
