/** For each promise of the document: ordinary inputs, the edges it names and wrong inputs, with answers found by hand. */
public final class PromiseTest {
    private static final int BAD = CographCotree.BAD;
    private static final int FULL = CographCotree.FULL;
    private static final int FOUR_PATH = CographCotree.FOUR_PATH;
    private static final int APART = CographCotree.APART;
    private static final int LEAST = Integer.MIN_VALUE;
    private static final int MOST = Integer.MAX_VALUE;

    private static int asked = 0;
    private static int wrong = 0;

    private static void due(int promise, String call, long got, long want) {
        asked++;
        if (got != want) {
            wrong++;
            System.out.println("promise " + promise + ": " + call + " answered " + got + ", due is " + want);
        }
    }

    private static void due(int promise, String call, boolean got, boolean want) {
        due(promise, call, got ? 1 : 0, want ? 1 : 0);
    }

    private static CographCotree graph(int weight, int... neighbours) {
        CographCotree x = new CographCotree(weight);
        for (int i = 0; i < neighbours.length; i++) {
            due(2, "addVertex(" + neighbours[i] + ") while a graph is built", x.addVertex(neighbours[i]), i + 1);
        }
        return x;
    }

    /** The path 0-1-2, whose ends and middle tell vertices apart, refused a fourth vertex: witness (0, 1, 2, 3). */
    private static CographCotree graphWithWitness() {
        CographCotree x = graph(3, 0, 1, 2);
        due(2, "addVertex(4)", x.addVertex(4), FOUR_PATH);
        return x;
    }

    private static void dueWitness(int promise, String when, CographCotree x, int a, int b, int c, int d) {
        due(promise, "witness(0) " + when, x.witness(0), a);
        due(promise, "witness(1) " + when, x.witness(1), b);
        due(promise, "witness(2) " + when, x.witness(2), c);
        due(promise, "witness(3) " + when, x.witness(3), d);
    }

    private static void dueNoWitness(int promise, String when, CographCotree x) {
        dueWitness(promise, when, x, BAD, BAD, BAD, BAD);
    }

    private static void newObject() {
        int[] given = {LEAST, -1, 0, 1, 99, 100, 101, MOST};
        int[] clamped = {0, 0, 0, 1, 99, 100, 100, 100};
        for (int i = 0; i < given.length; i++) {
            CographCotree x = new CographCotree(given[i]);
            due(1, "size()", x.size(), 0);
            dueNoWitness(1, "on a new object", x);
            due(1, "addVertex(0)", x.addVertex(0), 1);
            due(1, "addVertex(0)", x.addVertex(0), 2);
            due(1, "heaviestStable(1), weight " + given[i], x.heaviestStable(1), clamped[i]);
            due(1, "heaviestStable(2), weight " + given[i], x.heaviestStable(2), clamped[i]);
        }
        due(1, "BAD", BAD, -1);
        due(1, "FULL", FULL, -2);
        due(1, "FOUR_PATH", FOUR_PATH, -3);
        due(1, "APART", APART, -4);
    }

    private static void graphWithoutVertices() {
        CographCotree x = new CographCotree(5);
        due(3, "removeVertex(0) without vertices", x.removeVertex(0), BAD);
        due(4, "complement() without vertices", x.complement(), 0);
        due(5, "setWeight(0, 1) without vertices", x.setWeight(0, 1), false);
        due(7, "adjacent(0, 0) without vertices", x.adjacent(0, 0), false);
        due(8, "distance(0, 0) without vertices", x.distance(0, 0), BAD);
        due(9, "components(0) without vertices", x.components(0), 0);
        due(9, "components(1) without vertices", x.components(1), BAD);
        due(10, "cliqueNumber(0) without vertices", x.cliqueNumber(0), 0);
        due(11, "cliques(0) without vertices", x.cliques(0), 0);
        due(12, "stableSets(0) without vertices", x.stableSets(0), 0);
        due(13, "heaviestStable(0) without vertices", x.heaviestStable(0), 0);
        due(14, "colours(0) without vertices", x.colours(0), 0);
        due(15, "isModule(0) without vertices", x.isModule(0), false);
        due(16, "measure(0) without vertices", x.measure(0), 0);
        due(16, "measure(1) without vertices", x.measure(1), 0);
        due(2, "addVertex(1) without vertices", x.addVertex(1), BAD);
        due(2, "addVertex(-1) without vertices", x.addVertex(-1), BAD);
        due(2, "size() after refusals", x.size(), 0);
    }

    private static void addVertexAnswers() {
        CographCotree x = graph(3, 0, 1, 2);
        for (int neighbours : new int[] {-1, 8, 9, 16, 256, LEAST, MOST}) {
            due(2, "addVertex(" + neighbours + ")", x.addVertex(neighbours), BAD);
            due(2, "size() after BAD", x.size(), 3);
        }
        due(2, "addVertex(7)", x.addVertex(7), 4);
        for (int v = 0; v < 3; v++) {
            due(2, "adjacent(3, " + v + ")", x.adjacent(3, v), true);
            due(2, "adjacent(" + v + ", 3)", x.adjacent(v, 3), true);
        }
        CographCotree full = graph(3, 0, 0, 0, 0, 0, 0, 0, 0);
        for (int neighbours : new int[] {0, 1, 255, 256, -1, LEAST, MOST}) {
            due(2, "addVertex(" + neighbours + ") with 8 vertices", full.addVertex(neighbours), FULL);
        }
        due(2, "size() after FULL", full.size(), 8);
        due(2, "cliques(255) after FULL", full.cliques(255), 8);
    }

    private static void addVertexFourPath() {
        CographCotree x = graphWithWitness();
        dueWitness(2, "of the path grown at its end", x, 0, 1, 2, 3);
        due(2, "size() after FOUR_PATH", x.size(), 3);
        due(2, "components(8) after FOUR_PATH", x.components(8), BAD);
        due(2, "cliques(7) after FOUR_PATH", x.cliques(7), 5);
        due(2, "addVertex(1)", x.addVertex(1), FOUR_PATH);
        dueWitness(2, "of the path grown at its beginning", x, 2, 1, 0, 3);
        due(2, "addVertex(5)", x.addVertex(5), 4);
        dueNoWitness(2, "after a vertex was added", x);
        due(2, "adjacent(2, 3)", x.adjacent(2, 3), true);
        due(2, "adjacent(1, 3)", x.adjacent(1, 3), false);

        // Two edges 0-1 and 2-3; a vertex joined to 1 and 2 makes 0-1-4-2 and 1-4-2-3.
        CographCotree edges = graph(3, 0, 1, 0, 4);
        due(2, "addVertex(6)", edges.addVertex(6), FOUR_PATH);
        dueWitness(2, "between two edges", edges, 0, 1, 4, 2);
        // The same vertex joined to 0 too: 0-4-2-3 and 1-4-2-3.
        due(2, "addVertex(7)", edges.addVertex(7), FOUR_PATH);
        dueWitness(2, "after another refusal", edges, 0, 4, 2, 3);
        due(2, "addVertex(15)", edges.addVertex(15), 5);
        due(2, "heaviestStable(16)", edges.heaviestStable(16), 3);
    }

    private static void removeVertexRenumbers() {
        // Vertex 1 is joined to all others, 2 to 3.
        CographCotree x = graph(4, 0, 1, 2, 6);
        for (int v = 0; v < 4; v++) {
            due(3, "setWeight", x.setWeight(v, 10 + v), true);
        }
        for (int v : new int[] {-1, 4, 5, 8, LEAST, MOST}) {
            due(3, "removeVertex(" + v + ")", x.removeVertex(v), BAD);
        }
        due(3, "size() after BAD", x.size(), 4);
        due(3, "removeVertex(0)", x.removeVertex(0), 3);
        due(3, "size()", x.size(), 3);
        due(3, "cliques(7)", x.cliques(7), 7);
        for (int v = 0; v < 3; v++) {
            due(3, "weight of " + v, x.heaviestStable(1 << v), 11 + v);
        }
        due(3, "addVertex(6)", x.addVertex(6), 4);
        due(3, "weight of the new vertex", x.heaviestStable(8), 4);
        due(3, "removeVertex(1)", x.removeVertex(1), 3);
        due(3, "adjacent(0, 1)", x.adjacent(0, 1), true);
        due(3, "adjacent(1, 2)", x.adjacent(1, 2), true);
        due(3, "adjacent(0, 2)", x.adjacent(0, 2), false);
        due(3, "weight of 1", x.heaviestStable(2), 13);
        due(3, "weight of 2", x.heaviestStable(4), 4);
        due(3, "removeVertex(2)", x.removeVertex(2), 2);
        due(3, "adjacent(0, 1)", x.adjacent(0, 1), true);
        due(3, "addVertex(0)", x.addVertex(0), 3);
        due(3, "adjacent(1, 2) after a vertex went and another came", x.adjacent(1, 2), false);
        due(3, "removeVertex(0)", x.removeVertex(0), 2);
        due(3, "removeVertex(0)", x.removeVertex(0), 1);
        due(3, "removeVertex(0)", x.removeVertex(0), 0);
        due(3, "removeVertex(0)", x.removeVertex(0), BAD);

        CographCotree full = graph(1, 0, 1, 3, 7, 15, 31, 63, 127);
        due(3, "removeVertex(7)", full.removeVertex(7), 7);
        due(3, "removeVertex(3)", full.removeVertex(3), 6);
        due(3, "cliques(63)", full.cliques(63), 63);
        due(3, "addVertex(0)", full.addVertex(0), 7);
    }

    private static void complementTurnsEdges() {
        CographCotree x = graph(2, 0, 1, 2);
        due(4, "setWeight(1, 9)", x.setWeight(1, 9), true);
        due(4, "complement()", x.complement(), 1);
        due(4, "adjacent(0, 2)", x.adjacent(0, 2), true);
        due(4, "adjacent(0, 1)", x.adjacent(0, 1), false);
        due(4, "adjacent(1, 1)", x.adjacent(1, 1), false);
        due(4, "weight of 1", x.heaviestStable(2), 9);
        due(4, "size()", x.size(), 3);
        due(4, "complement()", x.complement(), 2);
        CographCotree full = graph(2, 0, 0, 0, 0, 0, 0, 0, 0);
        due(4, "complement() of no edges", full.complement(), 28);
        due(4, "complement() of all edges", full.complement(), 0);
        due(4, "complement() of one vertex", graph(2, 0).complement(), 0);
    }

    private static void setWeightBounds() {
        CographCotree x = graph(6, 0, 0);
        int[][] refused = {{-1, 5}, {2, 5}, {8, 5}, {LEAST, 5}, {MOST, 5}, {0, -1}, {0, 101}, {1, LEAST}, {1, MOST}};
        for (int[] call : refused) {
            due(5, "setWeight(" + call[0] + ", " + call[1] + ")", x.setWeight(call[0], call[1]), false);
        }
        due(5, "weights after refusals", x.heaviestStable(3), 12);
        due(5, "setWeight(0, 0)", x.setWeight(0, 0), true);
        due(5, "weight of 0", x.heaviestStable(1), 0);
        due(5, "weight of 1", x.heaviestStable(2), 6);
        due(5, "setWeight(1, 100)", x.setWeight(1, 100), true);
        due(5, "weight of both", x.heaviestStable(3), 100);
        due(5, "addVertex(0)", x.addVertex(0), 3);
        due(5, "weight of a later vertex", x.heaviestStable(4), 6);
    }

    private static void sizeCounts() {
        CographCotree x = new CographCotree(1);
        for (int n = 0; n < 8; n++) {
            due(6, "size()", x.size(), n);
            due(6, "addVertex(0)", x.addVertex(0), n + 1);
        }
        due(6, "size()", x.size(), 8);
        due(6, "removeVertex(5)", x.removeVertex(5), 7);
        due(6, "size()", x.size(), 7);
    }

    private static void adjacentCouples() {
        CographCotree x = graph(1, 0, 1, 2);
        due(7, "adjacent(0, 1)", x.adjacent(0, 1), true);
        due(7, "adjacent(1, 0)", x.adjacent(1, 0), true);
        due(7, "adjacent(1, 2)", x.adjacent(1, 2), true);
        due(7, "adjacent(0, 2)", x.adjacent(0, 2), false);
        due(7, "adjacent(2, 0)", x.adjacent(2, 0), false);
        for (int v = 0; v < 3; v++) {
            due(7, "adjacent(v, v)", x.adjacent(v, v), false);
        }
        for (int outside : new int[] {-1, 3, 8, 32, 33, -31, LEAST, MOST}) {
            due(7, "adjacent(1, " + outside + ")", x.adjacent(1, outside), false);
            due(7, "adjacent(" + outside + ", 1)", x.adjacent(outside, 1), false);
        }
    }

    private static void distances() {
        CographCotree x = graph(1, 0, 1, 2, 0);
        due(8, "distance(0, 0)", x.distance(0, 0), 0);
        due(8, "distance(3, 3)", x.distance(3, 3), 0);
        due(8, "distance(0, 1)", x.distance(0, 1), 1);
        due(8, "distance(0, 2)", x.distance(0, 2), 2);
        due(8, "distance(2, 0)", x.distance(2, 0), 2);
        due(8, "distance(0, 3)", x.distance(0, 3), APART);
        due(8, "distance(3, 0)", x.distance(3, 0), APART);
        for (int outside : new int[] {-1, 4, 8, 32, LEAST, MOST}) {
            due(8, "distance(0, " + outside + ")", x.distance(0, outside), BAD);
            due(8, "distance(" + outside + ", 0)", x.distance(outside, 0), BAD);
            due(8, "distance(" + outside + ", same)", x.distance(outside, outside), BAD);
        }
        due(8, "distance(0, 0) of one vertex", graph(1, 0).distance(0, 0), 0);
        due(8, "distance(0, 1) of two", graph(1, 0, 0).distance(0, 1), APART);
        due(8, "distance(0, 1) of two joined", graph(1, 0, 1).distance(0, 1), 1);
    }

    private static void setsOutsideAreBad() {
        CographCotree x = graph(1, 0, 1, 2);
        for (int set : new int[] {-1, -8, 8, 9, 16, 255, 256, LEAST, MOST}) {
            due(9, "components(" + set + ")", x.components(set), BAD);
            due(10, "cliqueNumber(" + set + ")", x.cliqueNumber(set), BAD);
            due(11, "cliques(" + set + ")", x.cliques(set), BAD);
            due(12, "stableSets(" + set + ")", x.stableSets(set), BAD);
            due(13, "heaviestStable(" + set + ")", x.heaviestStable(set), BAD);
            due(14, "colours(" + set + ")", x.colours(set), BAD);
            due(15, "isModule(" + set + ")", x.isModule(set), false);
        }
        CographCotree full = graph(1, 0, 0, 0, 0, 0, 0, 0, 0);
        for (int set : new int[] {-1, 256, 257, 511, LEAST, MOST}) {
            due(9, "components(" + set + ")", full.components(set), BAD);
            due(15, "isModule(" + set + ")", full.isModule(set), false);
        }
        due(9, "components(0)", x.components(0), 0);
        due(10, "cliqueNumber(0)", x.cliqueNumber(0), 0);
        due(11, "cliques(0)", x.cliques(0), 0);
        due(12, "stableSets(0)", x.stableSets(0), 0);
        due(13, "heaviestStable(0)", x.heaviestStable(0), 0);
        due(14, "colours(0)", x.colours(0), 0);
        due(15, "isModule(0)", x.isModule(0), false);
    }

    private static void componentsOfSets() {
        // The triangle 0, 1, 2, the edge 3-4 and 5 alone.
        CographCotree x = graph(1, 0, 1, 3, 0, 8, 0);
        due(9, "components(63)", x.components(63), 3);
        due(9, "components(7)", x.components(7), 1);
        due(9, "components(5)", x.components(5), 1);
        due(9, "components(24)", x.components(24), 1);
        due(9, "components(41)", x.components(41), 3);
        due(9, "components(32)", x.components(32), 1);
        // The middle of a path is outside the set, so its ends are apart.
        due(9, "components(5) of a path", graph(1, 0, 1, 2).components(5), 2);
        due(9, "components(7) of a path", graph(1, 0, 1, 2).components(7), 1);
    }

    private static void cliquesAndStableSets() {
        // The triangle 0, 1, 2, the edge 3-4 and 5 alone.
        CographCotree x = graph(1, 0, 1, 3, 0, 8, 0);
        due(10, "cliqueNumber(63)", x.cliqueNumber(63), 3);
        due(10, "cliqueNumber(58)", x.cliqueNumber(58), 2);
        due(10, "cliqueNumber(42)", x.cliqueNumber(42), 1);
        due(11, "cliques(63)", x.cliques(63), 7 + 3 + 1);
        due(11, "cliques(27)", x.cliques(27), 3 + 3);
        due(11, "cliques(32)", x.cliques(32), 1);
        due(12, "stableSets(63)", x.stableSets(63), 4 * 3 * 2 - 1);
        due(12, "stableSets(7)", x.stableSets(7), 3);
        due(12, "stableSets(41)", x.stableSets(41), 7);
        due(14, "colours(63)", x.colours(63), 3);
        due(14, "colours(58)", x.colours(58), 2);
        due(14, "colours(42)", x.colours(42), 1);
        CographCotree all = graph(1, 0, 1, 3, 7, 15, 31, 63, 127);
        due(10, "cliqueNumber(255) of all edges", all.cliqueNumber(255), 8);
        due(11, "cliques(255) of all edges", all.cliques(255), 255);
        due(12, "stableSets(255) of all edges", all.stableSets(255), 8);
        due(14, "colours(255) of all edges", all.colours(255), 8);
        CographCotree none = graph(1, 0, 0, 0, 0, 0, 0, 0, 0);
        due(10, "cliqueNumber(255) of no edges", none.cliqueNumber(255), 1);
        due(11, "cliques(255) of no edges", none.cliques(255), 8);
        due(12, "stableSets(255) of no edges", none.stableSets(255), 255);
        due(14, "colours(255) of no edges", none.colours(255), 1);
        // A square has no clique of three and needs no third colour; the hub joined to it all makes both three.
        CographCotree wheel = graph(1, 0, 1, 2, 5, 15);
        due(10, "cliqueNumber(15) of a square", wheel.cliqueNumber(15), 2);
        due(14, "colours(15) of a square", wheel.colours(15), 2);
        due(10, "cliqueNumber(31) of a wheel", wheel.cliqueNumber(31), 3);
        due(14, "colours(31) of a wheel", wheel.colours(31), 3);
    }

    private static void heaviestStableSums() {
        // A star with middle 0: the middle alone stands against all the rest.
        CographCotree x = graph(10, 0, 1, 1, 1);
        due(13, "heaviestStable(15)", x.heaviestStable(15), 30);
        due(13, "heaviestStable(3)", x.heaviestStable(3), 10);
        due(13, "setWeight(0, 31)", x.setWeight(0, 31), true);
        due(13, "heaviestStable(15)", x.heaviestStable(15), 31);
        due(13, "heaviestStable(14)", x.heaviestStable(14), 30);
        due(13, "setWeight(2, 12)", x.setWeight(2, 12), true);
        due(13, "heaviestStable(15)", x.heaviestStable(15), 32);
        due(13, "heaviestStable(255), weights 100", graph(100, 0, 0, 0, 0, 0, 0, 0, 0).heaviestStable(255), 800);
        due(13, "heaviestStable(3), weights 0", graph(0, 0, 0).heaviestStable(3), 0);
    }

    private static void modules() {
        // A star with middle 0: its modules are the single vertices, the whole, and every set of the others.
        CographCotree x = graph(1, 0, 1, 1, 1);
        for (int set = 1; set < 16; set++) {
            boolean alone = set == 1;
            boolean whole = set == 15;
            boolean withoutMiddle = (set & 1) == 0;
            due(15, "isModule(" + set + ")", x.isModule(set), alone || whole || withoutMiddle);
        }
        due(15, "isModule(1) of one vertex", graph(1, 0).isModule(1), true);
        due(15, "isModule(255) of eight", graph(1, 0, 0, 0, 0, 0, 0, 0, 0).isModule(255), true);
    }

    private static void measures() {
        CographCotree star = graph(1, 0, 1, 1, 1);
        // Four vertices, the outer three together, and the whole.
        due(16, "measure(0) of a star", star.measure(0), 6);
        due(16, "measure(1) of a star", star.measure(1), 2);
        due(16, "complement()", star.complement(), 3);
        due(16, "measure(0) of the complement", star.measure(0), 6);
        due(16, "measure(1) of the complement", star.measure(1), 2);
        due(16, "measure(0) of one vertex", graph(1, 0).measure(0), 1);
        due(16, "measure(1) of one vertex", graph(1, 0).measure(1), 1);
        due(16, "measure(0) of two vertices", graph(1, 0, 0).measure(0), 3);
        due(16, "measure(1) of two vertices", graph(1, 0, 0).measure(1), 2);
        CographCotree none = graph(1, 0, 0, 0, 0, 0, 0, 0, 0);
        due(16, "measure(0) of no edges", none.measure(0), 9);
        due(16, "measure(1) of no edges", none.measure(1), 8);
        due(16, "complement()", none.complement(), 28);
        due(16, "measure(0) of all edges", none.measure(0), 9);
        due(16, "measure(1) of all edges", none.measure(1), 1);
        // Each vertex joined to none or all before it, in turns: each makes one more strong module.
        CographCotree turns = graph(1, 0, 1, 0, 7, 0, 31, 0, 127);
        due(16, "measure(0) of turns", turns.measure(0), 15);
        due(16, "measure(1) of turns", turns.measure(1), 1);
        // A star with seven outer vertices: the middle ties two of them together.
        due(16, "measure(1) of a great star", graph(1, 0, 1, 1, 1, 1, 1, 1, 1).measure(1), 6);
        for (int kind : new int[] {-1, 2, 3, 256, LEAST, MOST}) {
            due(16, "measure(" + kind + ")", star.measure(kind), BAD);
            due(16, "measure(" + kind + ") without vertices", new CographCotree(1).measure(kind), BAD);
        }
    }

    private static void witnessEntries() {
        CographCotree x = graphWithWitness();
        dueWitness(17, "after FOUR_PATH", x, 0, 1, 2, 3);
        for (int k : new int[] {-1, 4, 5, 8, LEAST, MOST}) {
            due(17, "witness(" + k + ")", x.witness(k), BAD);
        }
        dueWitness(17, "asked once more", x, 0, 1, 2, 3);
        dueNoWitness(17, "of a graph never refused", graph(1, 0, 1));
        due(2, "addVertex(0)", x.addVertex(0), 4);
        dueNoWitness(2, "after addVertex", x);
        x = graphWithWitness();
        due(3, "removeVertex(2)", x.removeVertex(2), 2);
        dueNoWitness(3, "after removeVertex", x);
        x = graphWithWitness();
        due(4, "complement()", x.complement(), 1);
        dueNoWitness(4, "after complement", x);
    }

    private static void refusalsChangeNothing() {
        CographCotree x = graphWithWitness();
        due(18, "addVertex(8)", x.addVertex(8), BAD);
        due(18, "addVertex(-1)", x.addVertex(-1), BAD);
        dueWitness(18, "after addVertex BAD", x, 0, 1, 2, 3);
        due(18, "removeVertex(3)", x.removeVertex(3), BAD);
        due(18, "removeVertex(-1)", x.removeVertex(-1), BAD);
        dueWitness(18, "after removeVertex BAD", x, 0, 1, 2, 3);
        due(18, "setWeight(3, 1)", x.setWeight(3, 1), false);
        due(18, "setWeight(0, 101)", x.setWeight(0, 101), false);
        dueWitness(18, "after setWeight false", x, 0, 1, 2, 3);
        due(18, "setWeight(0, 8)", x.setWeight(0, 8), true);
        dueWitness(18, "after setWeight true", x, 0, 1, 2, 3);
        askEverything(x, 7);
        askEverything(x, 8);
        askEverything(x, -1);
        dueWitness(18, "after questions", x, 0, 1, 2, 3);
        due(18, "size()", x.size(), 3);
        due(18, "heaviestStable(7)", x.heaviestStable(7), 11);
        due(18, "complement()", x.complement(), 1);
        due(18, "adjacent(0, 2)", x.adjacent(0, 2), true);

        // With 8 vertices FULL comes before BAD, and a witness can't be there: the eighth vertex has dropped it.
        CographCotree full = graph(1, 0, 1, 2, 5, 0, 0, 0);
        due(18, "addVertex(1)", full.addVertex(1), FOUR_PATH);
        due(18, "addVertex(127)", full.addVertex(127), 8);
        due(18, "addVertex(-1)", full.addVertex(-1), FULL);
        dueNoWitness(18, "after FULL", full);
    }

    private static void askEverything(CographCotree x, int number) {
        x.size();
        x.adjacent(number, 0);
        x.distance(0, number);
        x.components(number);
        x.cliqueNumber(number);
        x.cliques(number);
        x.stableSets(number);
        x.heaviestStable(number);
        x.colours(number);
        x.isModule(number);
        x.measure(number);
        x.measure(0);
        x.measure(1);
        x.witness(number);
    }

    private static void objectsStandApart() {
        CographCotree one = graphWithWitness();
        CographCotree other = graph(9, 0);
        due(1, "size() of one", one.size(), 3);
        due(1, "size() of the other", other.size(), 1);
        dueWitness(1, "of one", one, 0, 1, 2, 3);
        dueNoWitness(1, "of the other", other);
    }

    public static void main(String[] args) {
        newObject();
        graphWithoutVertices();
        addVertexAnswers();
        addVertexFourPath();
        removeVertexRenumbers();
        complementTurnsEdges();
        setWeightBounds();
        sizeCounts();
        adjacentCouples();
        distances();
        setsOutsideAreBad();
        componentsOfSets();
        cliquesAndStableSets();
        heaviestStableSums();
        modules();
        measures();
        witnessEntries();
        refusalsChangeNothing();
        objectsStandApart();
        System.out.println(asked + " answers asked, " + wrong + " not as due");
        if (wrong != 0) {
            System.exit(1);
        }
    }
}
