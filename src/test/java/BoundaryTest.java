import java.util.function.IntUnaryOperator;
import java.util.function.ToIntFunction;

/**
 * One test for each sentence of the document that names a boundary case: too small, too large, empty, full, a
 * wrap-around, a refused call, a witness that is kept or dropped. A test that fails is told with its sentence.
 */
public final class BoundaryTest {
    private static final int BAD = CographCotree.BAD;
    private static final int FULL = CographCotree.FULL;
    private static final int FOUR_PATH = CographCotree.FOUR_PATH;
    private static final int APART = CographCotree.APART;
    private static final int LEAST = Integer.MIN_VALUE;
    private static final int MOST = Integer.MAX_VALUE;
    private static final int MOST_VERTICES = 8;

    private static int tests = 0;
    private static int failed = 0;
    private static int wrong = 0;

    // ---- How a test is run and how it looks at an object

    private static void test(int promise, String sentence, Runnable body) {
        tests++;
        int wrongBefore = wrong;
        try {
            body.run();
        } catch (RuntimeException thrown) {
            wrong++;
            System.out.println("  thrown: " + thrown);
        }
        if (wrong != wrongBefore) {
            failed++;
            System.out.println("promise " + promise + " FAILED: " + sentence);
        }
    }

    private static void due(String call, Object got, Object want) {
        if (!got.equals(want)) {
            wrong++;
            System.out.println("  " + call + " answered " + got + ", due is " + want);
        }
    }

    private static CographCotree graph(int weight, int... neighbours) {
        CographCotree x = new CographCotree(weight);
        for (int i = 0; i < neighbours.length; i++) {
            due("addVertex(" + neighbours[i] + ") while a graph is built", x.addVertex(neighbours[i]), i + 1);
        }
        return x;
    }

    private static CographCotree withoutEdges(int n) {
        return graph(2, new int[n]);
    }

    /** Every second vertex is joined to all before it: no two vertices have the same place in the graph but 0 and 1. */
    private static CographCotree turns() {
        CographCotree x = graph(1, 0, 1, 0, 7, 0, 31, 0, 127);
        for (int v = 0; v < MOST_VERTICES; v++) {
            due("setWeight(" + v + ", " + (10 + v) + ")", x.setWeight(v, 10 + v), true);
        }
        return x;
    }

    private static boolean joinedInTurns(int u, int v) {
        return u != v && Math.max(u, v) % 2 == 1;
    }

    private static final String PATH = "edges 0-1 1-2; weights 10 11 12; ";

    /** The path 0-1-2, refused a vertex joined to 2. */
    private static CographCotree refusedPath() {
        CographCotree x = graph(3, 0, 1, 2);
        for (int v = 0; v < 3; v++) {
            due("setWeight(" + v + ", " + (10 + v) + ")", x.setWeight(v, 10 + v), true);
        }
        due("addVertex(4)", x.addVertex(4), FOUR_PATH);
        return x;
    }

    private static String witness(CographCotree x) {
        String four = x.witness(0) + " " + x.witness(1) + " " + x.witness(2) + " " + x.witness(3);
        return four.equals("-1 -1 -1 -1") ? "witness none" : "witness " + four;
    }

    /** All that the object holds, asked for in fewer than fifty calls. */
    private static String state(CographCotree x) {
        int n = x.size();
        StringBuilder told = new StringBuilder("edges");
        for (int u = 0; u < n; u++) {
            for (int v = u + 1; v < n; v++) {
                told.append(x.adjacent(u, v) ? " " + u + "-" + v : "");
            }
        }
        told.append("; weights");
        for (int v = 0; v < n; v++) {
            told.append(" ").append(x.heaviestStable(1 << v));
        }
        return told + "; " + witness(x);
    }

    private static void dueRefused(CographCotree x, String call, ToIntFunction<CographCotree> refused, int code) {
        String before = state(x);
        due(call, refused.applyAsInt(x), code);
        due("the state after " + call, state(x), before);
    }

    private static int number(boolean answer) {
        return answer ? 1 : 0;
    }

    /** Among them numbers that a shift by them would take for 0, 1 or n-1. */
    private static int[] noVertices(int n) {
        return new int[] {-1, n, n + 1, 8, 9, 31, 32, 33, 32 + n - 1, 64, -31, -32, 256, LEAST, LEAST + 1, MOST, -n - 1};
    }

    /** Among them numbers whose low bits are a set of the graph. */
    private static int[] noSets(int n) {
        int sets = 1 << n;
        return new int[] {-1, -2, -sets, -sets - 1, sets, sets + 1, 2 * sets - 1, 2 * sets, 256, 257, 511, 1 << 16,
            1 << 30, LEAST, LEAST + 1, LEAST + sets - 1, MOST, MOST - 1};
    }

    // ---- Promise 1

    private static void codesHaveTheirValues() {
        due("BAD", BAD, -1);
        due("FULL", FULL, -2);
        due("FOUR_PATH", FOUR_PATH, -3);
        due("APART", APART, -4);
    }

    private static void newGraphIsEmpty() {
        CographCotree x = new CographCotree(50);
        due("size()", x.size(), 0);
        due("adjacent(0, 0)", x.adjacent(0, 0), false);
        due("distance(0, 0)", x.distance(0, 0), BAD);
        due("components(1)", x.components(1), BAD);
        due("isModule(1)", x.isModule(1), false);
    }

    private static void newGraphHasNoWitness() {
        due("witness of a new object", witness(new CographCotree(50)), "witness none");
    }

    private static void weightIsClamped() {
        int[] given = {LEAST, LEAST + 1, -256, -101, -100, -2, -1, 0, 1, 2, 50, 99, 100, 101, 102, 255, 256, MOST - 1, MOST};
        int[] clamped = {0, 0, 0, 0, 0, 0, 0, 0, 1, 2, 50, 99, 100, 100, 100, 100, 100, 100, 100};
        for (int i = 0; i < given.length; i++) {
            due("weight of the first vertex, given " + given[i], graph(given[i], 0).heaviestStable(1), clamped[i]);
        }
    }

    private static void everyNewVertexHasThatWeight() {
        CographCotree x = graph(101, 0, 0, 0, 0, 0, 0, 0, 0);
        due("state", state(x), "edges; weights 100 100 100 100 100 100 100 100; witness none");
        CographCotree low = graph(-1, 0, 0);
        due("state", state(low), "edges; weights 0 0; witness none");
    }

    private static void laterWeightsDoNotChangeIt() {
        CographCotree x = graph(7, 0, 0);
        due("setWeight(1, 60)", x.setWeight(1, 60), true);
        due("addVertex(0)", x.addVertex(0), 3);
        due("state", state(x), "edges; weights 7 60 7; witness none");
        due("removeVertex(2)", x.removeVertex(2), 2);
        due("removeVertex(1)", x.removeVertex(1), 1);
        due("addVertex(0)", x.addVertex(0), 2);
        due("state", state(x), "edges; weights 7 7; witness none");
        due("removeVertex(0)", x.removeVertex(0), 1);
        due("removeVertex(0)", x.removeVertex(0), 0);
        due("addVertex(0)", x.addVertex(0), 1);
        due("state", state(x), "edges; weights 7; witness none");
    }

    // ---- Promise 2

    private static void eightVerticesAreFull() {
        CographCotree x = withoutEdges(MOST_VERTICES);
        for (int neighbours : new int[] {0, 1, 128, 255}) {
            dueRefused(x, "addVertex(" + neighbours + ")", y -> y.addVertex(neighbours), FULL);
        }
    }

    private static void sevenVerticesAreNotFull() {
        due("addVertex(127)", withoutEdges(7).addVertex(127), 8);
        CographCotree x = withoutEdges(MOST_VERTICES);
        due("addVertex(0)", x.addVertex(0), FULL);
        due("removeVertex(3)", x.removeVertex(3), 7);
        due("addVertex(127)", x.addVertex(127), 8);
        due("addVertex(0)", x.addVertex(0), FULL);
    }

    private static void fullComesBeforeBad() {
        for (int neighbours : noSets(MOST_VERTICES)) {
            CographCotree x = withoutEdges(MOST_VERTICES);
            dueRefused(x, "addVertex(" + neighbours + ")", y -> y.addVertex(neighbours), FULL);
        }
    }

    private static void fullComesBeforeFourPath() {
        CographCotree x = graph(1, 0, 1, 2, 0, 0, 0, 0, 0);
        dueRefused(x, "addVertex(4)", y -> y.addVertex(4), FULL);
        due("witness after FULL", witness(x), "witness none");
    }

    private static void neighboursOutsideAreBad() {
        for (int n = 0; n < MOST_VERTICES; n++) {
            for (int neighbours : noSets(n)) {
                CographCotree x = withoutEdges(n);
                dueRefused(x, "addVertex(" + neighbours + ") with " + n, y -> y.addVertex(neighbours), BAD);
            }
        }
    }

    private static void leastAndGreatestNeighboursAreTaken() {
        for (int n = 0; n < MOST_VERTICES; n++) {
            int all = (1 << n) - 1;
            CographCotree x = withoutEdges(n);
            due("addVertex(" + all + ") with " + n, x.addVertex(all), n + 1);
            due("cliques after it", x.cliques(2 * all + 1), 2 * n + 1);
            CographCotree y = withoutEdges(n);
            due("addVertex(0) with " + n, y.addVertex(0), n + 1);
            due("cliques after it", y.cliques(2 * all + 1), n + 1);
        }
    }

    private static void badComesBeforeFourPath() {
        CographCotree x = graph(1, 0, 1, 2);
        for (int neighbours : new int[] {8 + 4, 16 + 4, 256 + 4, LEAST + 4, -8 + 4}) {
            dueRefused(x, "addVertex(" + neighbours + ")", y -> y.addVertex(neighbours), BAD);
            due("witness after BAD", witness(x), "witness none");
        }
    }

    private static void fourPathLeavesTheGraph() {
        CographCotree x = refusedPath();
        due("state", state(x), PATH + "witness 0 1 2 3");
        due("size()", x.size(), 3);
        due("components(8)", x.components(8), BAD);
        due("distance(0, 3)", x.distance(0, 3), BAD);
        due("measure(0)", x.measure(0), 5);
        due("measure(1)", x.measure(1), 1);
        // Were an edge of the refused vertex still there, it would be met again here.
        due("addVertex(0)", x.addVertex(0), 4);
        due("state", state(x), "edges 0-1 1-2; weights 10 11 12 3; witness none");
    }

    private static void threeVerticesAreNeededForAFourPath() {
        for (int first = 0; first < 2; first++) {
            for (int second = 0; second < 4; second++) {
                due("addVertex(" + second + ")", graph(1, 0, first).addVertex(second), 3);
            }
        }
    }

    private static void newVertexIsTheLastOfTheWitness() {
        CographCotree x = graph(1, 0, 1, 2);
        due("addVertex(4)", x.addVertex(4), FOUR_PATH);
        due("witness", witness(x), "witness 0 1 2 3");
        // The four-path 3-0-1-2 is told from its smaller end.
        due("addVertex(1)", x.addVertex(1), FOUR_PATH);
        due("witness", witness(x), "witness 2 1 0 3");
    }

    private static void newVertexIsWithinTheWitness() {
        CographCotree second = graph(1, 0, 0, 2);
        due("addVertex(3)", second.addVertex(3), FOUR_PATH);
        due("witness", witness(second), "witness 0 3 1 2");
        CographCotree third = graph(1, 0, 1, 0);
        due("addVertex(6)", third.addVertex(6), FOUR_PATH);
        due("witness", witness(third), "witness 0 1 3 2");
    }

    private static void vertexNoneIsWithinTheWitness() {
        CographCotree second = graph(1, 0, 1, 1);
        due("addVertex(4)", second.addVertex(4), FOUR_PATH);
        due("witness", witness(second), "witness 1 0 2 3");
        due("addVertex(2)", second.addVertex(2), FOUR_PATH);
        due("witness", witness(second), "witness 2 0 1 3");
        CographCotree third = graph(1, 0, 0, 1);
        due("addVertex(3)", third.addVertex(3), FOUR_PATH);
        due("witness", witness(third), "witness 1 3 0 2");
    }

    private static void newVertexHasNumberSeven() {
        CographCotree x = graph(1, 0, 0, 0, 0, 0, 16, 32);
        due("addVertex(64)", x.addVertex(64), FOUR_PATH);
        due("witness", witness(x), "witness 4 5 6 7");
    }

    private static void firstEntryDecides() {
        // 0 and 1 hang on 2, 2 on 3: the new vertex makes 0-2-3-4 and 1-2-3-4.
        CographCotree x = graph(1, 0, 0, 3, 4);
        due("addVertex(8)", x.addVertex(8), FOUR_PATH);
        due("witness", witness(x), "witness 0 2 3 4");
    }

    private static void secondEntryDecides() {
        // The square 0-1-2-3: the new vertex makes 0-1-2-4 and 0-3-2-4.
        CographCotree x = graph(1, 0, 1, 2, 5);
        due("addVertex(4)", x.addVertex(4), FOUR_PATH);
        due("witness", witness(x), "witness 0 1 2 4");
    }

    private static void thirdEntryDecides() {
        // A star with middle 1: the new vertex makes 0-1-2-4 and 0-1-3-4.
        CographCotree x = graph(1, 0, 1, 2, 2);
        due("addVertex(12)", x.addVertex(12), FOUR_PATH);
        due("witness", witness(x), "witness 0 1 2 4");
    }

    private static void fourthEntryDecides() {
        // The edge 0-1 with 2 and 3 alone: the new vertex makes 0-1-4-2 and 0-1-4-3.
        CographCotree x = graph(1, 0, 1, 0, 0);
        due("addVertex(14)", x.addVertex(14), FOUR_PATH);
        due("witness", witness(x), "witness 0 1 4 2");
    }

    private static void frontEntriesWeighMoreThanBackOnes() {
        // The edges 0-1 and 2-3: the new vertex makes 0-4-2-3 and 1-4-2-3, then 0-1-4-2 and 1-4-2-3.
        CographCotree x = graph(1, 0, 1, 0, 4);
        due("addVertex(7)", x.addVertex(7), FOUR_PATH);
        due("witness", witness(x), "witness 0 4 2 3");
        due("addVertex(6)", x.addVertex(6), FOUR_PATH);
        due("witness", witness(x), "witness 0 1 4 2");
    }

    private static void laterWitnessTakesThePlace() {
        CographCotree x = refusedPath();
        due("addVertex(1)", x.addVertex(1), FOUR_PATH);
        due("state", state(x), PATH + "witness 2 1 0 3");
        due("addVertex(4)", x.addVertex(4), FOUR_PATH);
        due("state", state(x), PATH + "witness 0 1 2 3");
    }

    private static void addedVertexDropsTheWitness() {
        CographCotree x = refusedPath();
        due("addVertex(5)", x.addVertex(5), 4);
        due("state", state(x), "edges 0-1 0-3 1-2 2-3; weights 10 11 12 3; witness none");
    }

    private static void eighthVertexIsAnsweredAndDropsTheWitness() {
        CographCotree x = graph(1, 0, 1, 2, 5, 0, 0, 0);
        due("addVertex(1)", x.addVertex(1), FOUR_PATH);
        due("witness", witness(x), "witness 2 1 0 7");
        due("addVertex(127)", x.addVertex(127), 8);
        due("witness", witness(x), "witness none");
    }

    // ---- Promise 3

    private static void removingOutsideIsBad() {
        for (int n = 0; n <= MOST_VERTICES; n++) {
            for (int v : noVertices(n)) {
                // Some of the numbers are vertices of the greater graphs.
                if (v < 0 || v >= n) {
                    dueRefused(withoutEdges(n), "removeVertex(" + v + ") with " + n, y -> y.removeVertex(v), BAD);
                }
            }
        }
    }

    private static void verticesAboveGoOneDown() {
        for (int removed = 0; removed < MOST_VERTICES; removed++) {
            CographCotree x = turns();
            due("removeVertex(" + removed + ")", x.removeVertex(removed), 7);
            for (int u = 0; u < 7; u++) {
                int oldU = u < removed ? u : u + 1;
                due("weight of " + u + " without " + removed, x.heaviestStable(1 << u), 10 + oldU);
                for (int v = 0; v < 7; v++) {
                    int oldV = v < removed ? v : v + 1;
                    due("adjacent(" + u + ", " + v + ")", x.adjacent(u, v), joinedInTurns(oldU, oldV));
                }
            }
            due("adjacent(0, 7)", x.adjacent(0, 7), false);
            due("heaviestStable(128)", x.heaviestStable(128), BAD);
        }
    }

    private static void edgesOfTheRemovedAreGone() {
        CographCotree x = turns();
        due("removeVertex(7)", x.removeVertex(7), 7);
        due("addVertex(0)", x.addVertex(0), 8);
        due("setWeight(7, 17)", x.setWeight(7, 17), true);
        for (int v = 0; v < 7; v++) {
            due("adjacent(" + v + ", 7)", x.adjacent(v, 7), false);
            due("adjacent(7, " + v + ")", x.adjacent(7, v), false);
        }
        due("distance(0, 7)", x.distance(0, 7), APART);
    }

    private static void removingAnswersTheNewNumber() {
        CographCotree first = turns();
        CographCotree last = turns();
        for (int left = 7; left >= 0; left--) {
            due("removeVertex(0)", first.removeVertex(0), left);
            due("size()", first.size(), left);
            due("removeVertex(" + left + ")", last.removeVertex(left), left);
            due("size()", last.size(), left);
        }
        due("removeVertex(0)", first.removeVertex(0), BAD);
        due("state", state(first), "edges; weights; witness none");
        due("addVertex(0)", first.addVertex(0), 1);
    }

    private static void removingDropsTheWitness() {
        for (int v = 0; v < 3; v++) {
            CographCotree x = refusedPath();
            due("removeVertex(" + v + ")", x.removeVertex(v), 2);
            due("witness", witness(x), "witness none");
        }
        // The vertex that goes is not on the witness.
        CographCotree x = graph(1, 0, 1, 2, 0);
        due("addVertex(4)", x.addVertex(4), FOUR_PATH);
        due("witness", witness(x), "witness 0 1 2 4");
        due("removeVertex(3)", x.removeVertex(3), 3);
        due("witness", witness(x), "witness none");
    }

    // ---- Promise 4

    private static void complementOfNoEdges() {
        for (int n = 0; n <= MOST_VERTICES; n++) {
            CographCotree x = withoutEdges(n);
            int couples = n * (n - 1) / 2;
            due("complement() of no edges, " + n, x.complement(), couples);
            due("cliques of it", x.cliques((1 << n) - 1), (1 << n) - 1);
            due("complement() of all edges, " + n, x.complement(), 0);
            due("cliques of it", x.cliques((1 << n) - 1), n);
        }
    }

    private static void complementOfSomeEdges() {
        CographCotree x = turns();
        due("complement()", x.complement(), 28 - 16);
        for (int u = 0; u < MOST_VERTICES; u++) {
            for (int v = 0; v < MOST_VERTICES; v++) {
                due("adjacent(" + u + ", " + v + ")", x.adjacent(u, v), u != v && !joinedInTurns(u, v));
            }
            due("weight of " + u, x.heaviestStable(1 << u), 10 + u);
        }
        due("complement()", x.complement(), 16);
    }

    private static void complementJoinsNoVertexToItself() {
        CographCotree x = graph(1, 0);
        due("complement()", x.complement(), 0);
        due("adjacent(0, 0)", x.adjacent(0, 0), false);
        due("stableSets(1)", x.stableSets(1), 1);
        // An edge to the number 1 that was there before the vertex would be met here.
        due("addVertex(0)", x.addVertex(0), 2);
        due("adjacent(0, 1)", x.adjacent(0, 1), false);
    }

    private static void complementDropsTheWitness() {
        CographCotree x = refusedPath();
        due("complement()", x.complement(), 1);
        due("state", state(x), "edges 0-2; weights 10 11 12; witness none");
        due("complement()", x.complement(), 2);
        due("state", state(x), PATH + "witness none");
    }

    // ---- Promise 5

    private static void weightOfNoVertexIsRefused() {
        for (int n = 0; n <= MOST_VERTICES; n++) {
            for (int v : noVertices(n)) {
                if (v < 0 || v >= n) {
                    String call = "setWeight(" + v + ", 50) with " + n;
                    dueRefused(withoutEdges(n), call, y -> number(y.setWeight(v, 50)), 0);
                }
            }
        }
    }

    private static void weightOutsideIsRefused() {
        for (int weight : new int[] {LEAST, LEAST + 50, -256, -100, -1, 101, 102, 128, 150, 256, 300, MOST}) {
            String call = "setWeight(1, " + weight + ")";
            dueRefused(graph(7, 0, 1, 2), call, y -> number(y.setWeight(1, weight)), 0);
        }
        dueRefused(graph(7, 0, 1, 2), "setWeight(3, 101)", y -> number(y.setWeight(3, 101)), 0);
        dueRefused(graph(7, 0, 1, 2), "setWeight(-1, -1)", y -> number(y.setWeight(-1, -1)), 0);
    }

    private static void leastAndGreatestWeightAreTaken() {
        for (int weight : new int[] {0, 1, 99, 100}) {
            CographCotree x = graph(7, 0, 1, 2);
            due("setWeight(0, " + weight + ")", x.setWeight(0, weight), true);
            due("state", state(x), "edges 0-1 1-2; weights " + weight + " 7 7; witness none");
            due("setWeight(2, " + weight + ")", x.setWeight(2, weight), true);
            due("state", state(x), "edges 0-1 1-2; weights " + weight + " 7 " + weight + "; witness none");
            due("setWeight(2, " + weight + ") again", x.setWeight(2, weight), true);
        }
    }

    private static void weightOfTheEighthVertexIsTaken() {
        CographCotree x = withoutEdges(MOST_VERTICES);
        due("setWeight(7, 100)", x.setWeight(7, 100), true);
        due("state", state(x), "edges; weights 2 2 2 2 2 2 2 100; witness none");
        due("removeVertex(0)", x.removeVertex(0), 7);
        due("setWeight(7, 50)", x.setWeight(7, 50), false);
        due("state", state(x), "edges; weights 2 2 2 2 2 2 100; witness none");
    }

    // ---- Promise 6

    private static void sizeFromNoneToEight() {
        CographCotree x = new CographCotree(1);
        for (int n = 0; n < MOST_VERTICES; n++) {
            due("size()", x.size(), n);
            due("addVertex(" + (1 << n) + ")", x.addVertex(1 << n), BAD);
            due("size() after BAD", x.size(), n);
            due("addVertex(0)", x.addVertex(0), n + 1);
        }
        due("size()", x.size(), 8);
        due("addVertex(0)", x.addVertex(0), FULL);
        due("size() after FULL", x.size(), 8);
        due("size() after FOUR_PATH", refusedPath().size(), 3);
    }

    // ---- Promises 7 and 8

    private static void noVertexIsJoinedToItself() {
        CographCotree all = graph(1, 0, 1, 3, 7, 15, 31, 63, 127);
        CographCotree none = withoutEdges(MOST_VERTICES);
        for (int v = 0; v < MOST_VERTICES; v++) {
            due("adjacent(" + v + ", " + v + ") of all edges", all.adjacent(v, v), false);
            due("adjacent(" + v + ", " + v + ") of no edges", none.adjacent(v, v), false);
        }
    }

    private static void outsideNothingIsJoined() {
        // All vertices that are there are joined, so a number taken for another one would be joined too.
        CographCotree all = new CographCotree(1);
        for (int n = 0; n <= MOST_VERTICES; n++) {
            for (int outside : noVertices(n)) {
                if (outside < 0 || outside >= n) {
                    due("adjacent(0, " + outside + ") with " + n, all.adjacent(0, outside), false);
                    due("adjacent(" + outside + ", 0) with " + n, all.adjacent(outside, 0), false);
                    due("adjacent(" + outside + ", same) with " + n, all.adjacent(outside, outside), false);
                }
            }
            all.addVertex((1 << n) - 1);
        }
    }

    private static void distanceToItselfIsNone() {
        CographCotree x = turns();
        CographCotree none = withoutEdges(MOST_VERTICES);
        for (int v = 0; v < MOST_VERTICES; v++) {
            due("distance(" + v + ", " + v + ")", x.distance(v, v), 0);
            due("distance(" + v + ", " + v + ") of no edges", none.distance(v, v), 0);
        }
        due("distance(0, 0) of one vertex", graph(1, 0).distance(0, 0), 0);
    }

    private static void apartWithoutPath() {
        CographCotree none = withoutEdges(MOST_VERTICES);
        due("distance(0, 7)", none.distance(0, 7), APART);
        due("distance(7, 0)", none.distance(7, 0), APART);
        due("distance(0, 1) of two", withoutEdges(2).distance(0, 1), APART);
        CographCotree edges = graph(1, 0, 1, 0, 4);
        due("distance(1, 2) of two edges", edges.distance(1, 2), APART);
        due("distance(2, 3) of two edges", edges.distance(2, 3), 1);
        // The refused vertex would have led from one to the other.
        due("addVertex(6)", edges.addVertex(6), FOUR_PATH);
        due("distance(1, 2) after it", edges.distance(1, 2), APART);
    }

    private static void greatestDistanceIsTwo() {
        CographCotree star = graph(1, 0, 0, 0, 0, 0, 0, 0, 127);
        due("distance(0, 6)", star.distance(0, 6), 2);
        due("distance(6, 0)", star.distance(6, 0), 2);
        due("distance(0, 7)", star.distance(0, 7), 1);
        due("removeVertex(7)", star.removeVertex(7), 7);
        due("distance(0, 6)", star.distance(0, 6), APART);
    }

    private static void distanceOutsideIsBad() {
        CographCotree x = new CographCotree(1);
        for (int n = 0; n <= MOST_VERTICES; n++) {
            for (int outside : noVertices(n)) {
                if (outside < 0 || outside >= n) {
                    due("distance(0, " + outside + ") with " + n, x.distance(0, outside), BAD);
                    due("distance(" + outside + ", 0) with " + n, x.distance(outside, 0), BAD);
                    due("distance(" + outside + ", same) with " + n, x.distance(outside, outside), BAD);
                }
            }
            x.addVertex(0);
        }
    }

    // ---- Promises 9 to 15

    private interface SetQuestion {
        int ask(CographCotree x, int set);
    }

    private static void emptySet(String name, SetQuestion question) {
        for (int n = 0; n <= MOST_VERTICES; n++) {
            due(name + "(0) with " + n, question.ask(withoutEdges(n), 0), 0);
        }
        due(name + "(0) of turns", question.ask(turns(), 0), 0);
    }

    private static void noSet(String name, SetQuestion question, int refusal) {
        for (int n = 0; n <= MOST_VERTICES; n++) {
            for (int set : noSets(n)) {
                String call = name + "(" + set + ") with " + n;
                dueRefused(withoutEdges(n), call, y -> question.ask(y, set), refusal);
            }
        }
        // What was a set before a vertex went is none after it; what a refused vertex would have made one is none.
        CographCotree x = turns();
        due("removeVertex(0)", x.removeVertex(0), 7);
        due(name + "(128)", question.ask(x, 128), refusal);
        due(name + "(8) after FOUR_PATH", question.ask(refusedPath(), 8), refusal);
    }

    private static void wholeSet(String name, SetQuestion question, IntUnaryOperator none, IntUnaryOperator all) {
        for (int n = 1; n <= MOST_VERTICES; n++) {
            CographCotree x = withoutEdges(n);
            int whole = (1 << n) - 1;
            due(name + "(" + whole + ") of no edges", question.ask(x, whole), none.applyAsInt(n));
            x.complement();
            due(name + "(" + whole + ") of all edges", question.ask(x, whole), all.applyAsInt(n));
        }
    }

    private static void testSets(int promise, String name, SetQuestion question, IntUnaryOperator none,
            IntUnaryOperator all) {
        boolean module = promise == 15;
        test(promise, name + " of the empty set", () -> emptySet(name, question));
        test(promise, name + " of what is not a set of the graph", () -> noSet(name, question, module ? 0 : BAD));
        test(promise, name + " of the greatest set", () -> wholeSet(name, question, none, all));
    }

    private static void outsideOfTheSetIsNotSeen() {
        // Vertex 7 is joined to all and 6 to none: neither may count for the sets without them.
        CographCotree x = turns();
        due("components(21)", x.components(21), 3);
        due("cliqueNumber(21)", x.cliqueNumber(21), 1);
        due("cliques(21)", x.cliques(21), 3);
        due("stableSets(21)", x.stableSets(21), 7);
        due("heaviestStable(21)", x.heaviestStable(21), 10 + 12 + 14);
        due("colours(21)", x.colours(21), 1);
        due("components(128)", x.components(128), 1);
        due("components(170)", x.components(170), 1);
        due("components(86)", x.components(86), 4);
        due("components(94)", x.components(94), 3);
        due("cliqueNumber(128)", x.cliqueNumber(128), 1);
        due("colours(128)", x.colours(128), 1);
    }

    private static void heaviestOfWeightsNone() {
        CographCotree x = graph(0, 0, 1, 2);
        for (int set = 0; set < 8; set++) {
            due("heaviestStable(" + set + ")", x.heaviestStable(set), 0);
        }
        due("heaviestStable(255) of eight times 100", graph(100, 0, 0, 0, 0, 0, 0, 0, 0).heaviestStable(255), 800);
    }

    private static void singleVerticesAreModules() {
        CographCotree x = turns();
        for (int v = 0; v < MOST_VERTICES; v++) {
            due("isModule(" + (1 << v) + ")", x.isModule(1 << v), true);
        }
        due("isModule(255)", x.isModule(255), true);
        due("isModule(3)", x.isModule(3), true);
        due("isModule(6)", x.isModule(6), false);
        due("isModule(127)", x.isModule(127), true);
        due("isModule(254)", x.isModule(254), false);
    }

    // ---- Promise 16

    private static void measuresOfNoVertices() {
        CographCotree x = new CographCotree(1);
        due("measure(0) of a new object", x.measure(0), 0);
        due("measure(1) of a new object", x.measure(1), 0);
        CographCotree emptied = graph(1, 0, 1);
        due("measure(0)", emptied.measure(0), 3);
        due("measure(1)", emptied.measure(1), 1);
        emptied.removeVertex(0);
        emptied.removeVertex(0);
        due("measure(0) of an emptied one", emptied.measure(0), 0);
        due("measure(1) of an emptied one", emptied.measure(1), 0);
    }

    private static void measuresOfOneVertex() {
        due("measure(0)", graph(1, 0).measure(0), 1);
        due("measure(1)", graph(1, 0).measure(1), 1);
    }

    private static void measuresWithoutAndWithAllEdges() {
        for (int n = 2; n <= MOST_VERTICES; n++) {
            CographCotree x = withoutEdges(n);
            due("measure(0) of no edges, " + n, x.measure(0), n + 1);
            due("measure(1) of no edges, " + n, x.measure(1), n);
            x.complement();
            due("measure(0) of all edges, " + n, x.measure(0), n + 1);
            due("measure(1) of all edges, " + n, x.measure(1), 1);
        }
        due("measure(0) of turns", turns().measure(0), 15);
        due("measure(1) of a star, middle 0", graph(1, 0, 1, 1, 1, 1, 1, 1, 1).measure(1), 6);
        due("measure(1) of a star, middle 7", graph(1, 0, 0, 0, 0, 0, 0, 0, 127).measure(1), 6);
    }

    private static void otherKindsAreBad() {
        for (int n = 0; n <= MOST_VERTICES; n++) {
            for (int kind : new int[] {-1, -2, 2, 3, 4, 8, 32, 33, 256, 257, LEAST, LEAST + 1, MOST}) {
                String call = "measure(" + kind + ") with " + n;
                dueRefused(withoutEdges(n), call, y -> y.measure(kind), BAD);
            }
        }
        dueRefused(refusedPath(), "measure(2) with a witness", y -> y.measure(2), BAD);
    }

    // ---- Promise 17

    private static void entriesOutsideAreBad() {
        CographCotree x = refusedPath();
        for (int k : new int[] {-1, -2, -4, 4, 5, 7, 8, 32, 33, 256, LEAST, LEAST + 1, MOST}) {
            due("witness(" + k + ")", x.witness(k), BAD);
            due("witness(" + k + ") without a witness", graph(1, 0, 1, 2).witness(k), BAD);
        }
        due("state", state(x), PATH + "witness 0 1 2 3");
    }

    private static void withoutWitnessAllIsBad() {
        for (int n = 0; n <= MOST_VERTICES; n++) {
            due("witness with " + n, witness(withoutEdges(n)), "witness none");
        }
        due("witness of a graph never refused", witness(turns()), "witness none");
        CographCotree x = graph(1, 0, 1, 2);
        due("addVertex(8)", x.addVertex(8), BAD);
        due("witness after BAD alone", witness(x), "witness none");
    }

    private static void droppedWitnessComesBackOnlyByARefusal() {
        CographCotree x = refusedPath();
        due("complement()", x.complement(), 1);
        due("witness", witness(x), "witness none");
        due("complement()", x.complement(), 2);
        due("addVertex(9)", x.addVertex(9), BAD);
        due("witness", witness(x), "witness none");
        due("addVertex(1)", x.addVertex(1), FOUR_PATH);
        due("witness", witness(x), "witness 2 1 0 3");
    }

    // ---- Promise 18

    private static void badLeavesTheWitness() {
        for (int neighbours : noSets(3)) {
            dueRefused(refusedPath(), "addVertex(" + neighbours + ")", y -> y.addVertex(neighbours), BAD);
        }
        due("state", state(refusedPath()), PATH + "witness 0 1 2 3");
    }

    /** A full graph has no witness, since the eighth vertex has dropped it; FULL may not bring one either. */
    private static void fullLeavesNoWitness() {
        CographCotree x = graph(1, 0, 1, 2, 0, 0, 0, 0);
        due("addVertex(4)", x.addVertex(4), FOUR_PATH);
        due("witness", witness(x), "witness 0 1 2 7");
        due("addVertex(0)", x.addVertex(0), 8);
        dueRefused(x, "addVertex(4)", y -> y.addVertex(4), FULL);
        dueRefused(x, "addVertex(-1)", y -> y.addVertex(-1), FULL);
        due("witness", witness(x), "witness none");
    }

    private static void refusedChangesLeaveTheWitness() {
        for (int v : noVertices(3)) {
            dueRefused(refusedPath(), "removeVertex(" + v + ")", y -> y.removeVertex(v), BAD);
        }
        CographCotree x = refusedPath();
        for (int weight : new int[] {-1, 101}) {
            dueRefused(x, "setWeight(0, " + weight + ")", y -> number(y.setWeight(0, weight)), 0);
        }
        dueRefused(x, "setWeight(3, 50)", y -> number(y.setWeight(3, 50)), 0);
        due("state", state(x), PATH + "witness 0 1 2 3");
    }

    private static void newWeightLeavesTheWitness() {
        CographCotree x = refusedPath();
        due("setWeight(0, 0)", x.setWeight(0, 0), true);
        due("setWeight(2, 100)", x.setWeight(2, 100), true);
        due("state", state(x), "edges 0-1 1-2; weights 0 11 100; witness 0 1 2 3");
    }

    private static void questionsChangeNothing() {
        for (int number : new int[] {LEAST, -1, 0, 1, 2, 3, 4, 5, 7, 8, 255, 256, MOST}) {
            CographCotree x = refusedPath();
            askEverything(x, number);
            due("state after questions with " + number, state(x), PATH + "witness 0 1 2 3");
            // A question may not bring a dropped witness back either.
            x.complement();
            askEverything(x, number);
            due("witness after questions with " + number, witness(x), "witness none");
        }
    }

    private static void askEverything(CographCotree x, int number) {
        x.size();
        x.adjacent(number, 1);
        x.adjacent(1, number);
        x.distance(number, 1);
        x.distance(1, number);
        x.components(number);
        x.cliqueNumber(number);
        x.cliques(number);
        x.stableSets(number);
        x.heaviestStable(number);
        x.colours(number);
        x.isModule(number);
        x.measure(number);
        x.witness(number);
    }

    private static void answersDoNotHangOnEarlierQuestions() {
        // The greater sets are asked first, so what is left of them inside the object would be met by the smaller.
        CographCotree x = turns();
        due("measure(0)", x.measure(0), 15);
        due("measure(1)", x.measure(1), 1);
        due("colours(255)", x.colours(255), 5);
        due("complement()", x.complement(), 12);
        due("colours(255)", x.colours(255), 4);
        due("colours(3)", x.colours(3), 1);
        due("measure(0)", x.measure(0), 15);
        due("measure(1)", x.measure(1), 2);
        for (int left = 7; left >= 2; left--) {
            due("removeVertex(" + left + ")", x.removeVertex(left), left);
        }
        due("measure(0)", x.measure(0), 3);
        due("measure(1)", x.measure(1), 2);
        due("colours(3)", x.colours(3), 1);
    }

    private static void noCallThrows() {
        int[] numbers = {LEAST, LEAST + 1, -257, -256, -33, -32, -9, -8, -1, 0, 1, 7, 8, 9, 31, 32, 33, 255, 256, 257, MOST};
        for (int n = 0; n <= MOST_VERTICES; n++) {
            for (int number : numbers) {
                CographCotree x = withoutEdges(n);
                askEverything(x, number);
                for (int other : numbers) {
                    x.adjacent(number, other);
                    x.distance(number, other);
                    x.setWeight(number, other);
                }
                x.removeVertex(number);
                x.addVertex(number);
                x.complement();
                askEverything(x, number);
            }
        }
    }

    private static void lastOfTheCallsIsAnswered() {
        CographCotree x = new CographCotree(9);
        int calls = 0;
        while (calls + 4 <= 508) {
            due("addVertex(0), call " + calls, x.addVertex(0), 1);
            due("addVertex(1), call " + calls, x.addVertex(1), 2);
            due("removeVertex(0), call " + calls, x.removeVertex(0), 1);
            due("removeVertex(0), call " + calls, x.removeVertex(0), 0);
            calls += 4;
        }
        due("addVertex(0), call 509", x.addVertex(0), 1);
        due("addVertex(1), call 510", x.addVertex(1), 2);
        due("heaviestStable(3), call 511", x.heaviestStable(3), 9);
        due("measure(0), call 512", x.measure(0), 3);
    }

    // ---- The sentences

    private static void newObjects() {
        test(1, "BAD, FULL, FOUR_PATH and APART of the public face", BoundaryTest::codesHaveTheirValues);
        test(1, "The graph without vertices", BoundaryTest::newGraphIsEmpty);
        test(1, "no witness", BoundaryTest::newGraphHasNoWitness);
        test(1, "W is weight clamped into 0..100", BoundaryTest::weightIsClamped);
        test(1, "every new vertex has weight W", BoundaryTest::everyNewVertexHasThatWeight);
        test(1, "every new vertex has weight W, whatever setWeight did", BoundaryTest::laterWeightsDoNotChangeIt);
    }

    private static void addedVertices() {
        test(2, "n is 8: FULL", BoundaryTest::eightVerticesAreFull);
        test(2, "n is 8: FULL, and 7 is not", BoundaryTest::sevenVerticesAreNotFull);
        test(2, "Tested in this order: FULL, BAD", BoundaryTest::fullComesBeforeBad);
        test(2, "Tested in this order: FULL, FOUR_PATH", BoundaryTest::fullComesBeforeFourPath);
        test(2, "Tested in this order: BAD, FOUR_PATH", BoundaryTest::badComesBeforeFourPath);
        test(2, "neighbours is not a set of the graph: BAD", BoundaryTest::neighboursOutsideAreBad);
        test(2, "a set of the graph: 0 .. 2^n - 1", BoundaryTest::leastAndGreatestNeighboursAreTaken);
        test(2, "FOUR_PATH; then the graph stays as it was", BoundaryTest::fourPathLeavesTheGraph);
        test(2, "four different vertices", BoundaryTest::threeVerticesAreNeededForAFourPath);
        test(2, "among the four-paths (a, b, c, d) with a < d", BoundaryTest::newVertexIsTheLastOfTheWitness);
        test(2, "with the new vertex under number n", BoundaryTest::newVertexIsWithinTheWitness);
        test(2, "a < d, whatever b and c are", BoundaryTest::vertexNoneIsWithinTheWitness);
        test(2, "with the new vertex under number n, 7", BoundaryTest::newVertexHasNumberSeven);
        test(2, "the first when lists are compared: entry 0", BoundaryTest::firstEntryDecides);
        test(2, "the first when lists are compared: entry 1", BoundaryTest::secondEntryDecides);
        test(2, "the first when lists are compared: entry 2", BoundaryTest::thirdEntryDecides);
        test(2, "the first when lists are compared: entry 3", BoundaryTest::fourthEntryDecides);
        test(2, "number by number from the front", BoundaryTest::frontEntriesWeighMoreThanBackOnes);
        test(2, "the witness is kept: the newest", BoundaryTest::laterWitnessTakesThePlace);
        test(2, "Else the vertex is added, the witness is dropped", BoundaryTest::addedVertexDropsTheWitness);
        test(2, "the new number of vertices is answered: 8", BoundaryTest::eighthVertexIsAnsweredAndDropsTheWitness);
    }

    private static void otherChanges() {
        test(3, "v outside 0..n-1: BAD", BoundaryTest::removingOutsideIsBad);
        test(3, "the vertices above v are renumbered and keep their weights", BoundaryTest::verticesAboveGoOneDown);
        test(3, "Takes vertex v and its edges away", BoundaryTest::edgesOfTheRemovedAreGone);
        test(3, "the new number of vertices is answered", BoundaryTest::removingAnswersTheNewNumber);
        test(3, "Else the witness is dropped", BoundaryTest::removingDropsTheWitness);
        test(4, "Answers the new number of edges: none and all", BoundaryTest::complementOfNoEdges);
        test(4, "Joins exactly the couples that were not joined", BoundaryTest::complementOfSomeEdges);
        test(4, "couples of different vertices", BoundaryTest::complementJoinsNoVertexToItself);
        test(4, "The witness is dropped", BoundaryTest::complementDropsTheWitness);
        test(5, "v outside 0..n-1: refused, answers false", BoundaryTest::weightOfNoVertexIsRefused);
        test(5, "weight outside 0..100: refused, answers false", BoundaryTest::weightOutsideIsRefused);
        test(5, "Else true: weights 0 and 100", BoundaryTest::leastAndGreatestWeightAreTaken);
        test(5, "Else true: vertex 7", BoundaryTest::weightOfTheEighthVertexIsTaken);
    }

    private static void questionsOfVertices() {
        test(6, "The number of vertices", BoundaryTest::sizeFromNoneToEight);
        test(7, "false for u = v", BoundaryTest::noVertexIsJoinedToItself);
        test(7, "false for numbers outside 0..n-1", BoundaryTest::outsideNothingIsJoined);
        test(8, "0 for u = v", BoundaryTest::distanceToItselfIsNone);
        test(8, "APART if no path leads from u to v", BoundaryTest::apartWithoutPath);
        test(8, "The distance of u and v, the greatest", BoundaryTest::greatestDistanceIsTwo);
        test(8, "BAD if u or v is outside 0..n-1", BoundaryTest::distanceOutsideIsBad);
    }

    private static void questionsOfSets() {
        testSets(9, "components", CographCotree::components, n -> n, n -> 1);
        testSets(10, "cliqueNumber", CographCotree::cliqueNumber, n -> 1, n -> n);
        testSets(11, "cliques", CographCotree::cliques, n -> n, n -> (1 << n) - 1);
        testSets(12, "stableSets", CographCotree::stableSets, n -> (1 << n) - 1, n -> n);
        testSets(13, "heaviestStable", CographCotree::heaviestStable, n -> 2 * n, n -> 2);
        testSets(14, "colours", CographCotree::colours, n -> 1, n -> n);
        testSets(15, "isModule", (x, set) -> number(x.isModule(set)), n -> 1, n -> 1);
        test(9, "within the set (promises 9 to 14)", BoundaryTest::outsideOfTheSetIsNotSeen);
        test(13, "The greatest sum of weights, the least and the greatest", BoundaryTest::heaviestOfWeightsNone);
        test(15, "A module is a set of one vertex or more", BoundaryTest::singleVerticesAreModules);
    }

    private static void measuresAndWitness() {
        test(16, "0 for no vertices", BoundaryTest::measuresOfNoVertices);
        test(16, "the measures of one vertex", BoundaryTest::measuresOfOneVertex);
        test(16, "the measures without and with all edges", BoundaryTest::measuresWithoutAndWithAllEdges);
        test(16, "Any other kind: BAD", BoundaryTest::otherKindsAreBad);
        test(17, "BAD for other k", BoundaryTest::entriesOutsideAreBad);
        test(17, "BAD if there is no witness", BoundaryTest::withoutWitnessAllIsBad);
        test(17, "no witness after one was dropped", BoundaryTest::droppedWitnessComesBackOnlyByARefusal);
    }

    private static void orderAndLimits() {
        test(18, "addVertex: BAD leaves the witness as it was", BoundaryTest::badLeavesTheWitness);
        test(18, "addVertex: FULL leaves the witness as it was", BoundaryTest::fullLeavesNoWitness);
        test(18, "a call that is refused changes nothing", BoundaryTest::refusedChangesLeaveTheWitness);
        test(18, "setWeight is not said to drop the witness", BoundaryTest::newWeightLeavesTheWitness);
        test(18, "a question changes nothing", BoundaryTest::questionsChangeNothing);
        test(18, "a question changes no later answer", BoundaryTest::answersDoNotHangOnEarlierQuestions);
        test(18, "no call throws, whatever its arguments", BoundaryTest::noCallThrows);
        test(18, "at most 512 calls", BoundaryTest::lastOfTheCallsIsAnswered);
    }

    public static void main(String[] args) {
        newObjects();
        addedVertices();
        otherChanges();
        questionsOfVertices();
        questionsOfSets();
        measuresAndWitness();
        orderAndLimits();
        System.out.println(tests + " boundary cases, " + failed + " failed");
        if (failed != 0) {
            System.exit(1);
        }
    }
}
