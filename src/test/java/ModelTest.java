import java.util.ArrayList;
import java.util.Arrays;
import java.util.List;

/**
 * Compares the class with a second program that finds its answers another way: by taking the graph apart into
 * components and components of the complement (its cotree) and by adding up over the parts.
 */
public final class ModelTest {
    private static final int MOST_VERTICES = 8;
    private static final int ALL_GRAPHS_UP_TO = 5;
    private static final int RUNS = 400;
    private static final int CALLS_A_RUN = 500;

    private static long asked = 0;
    private static int wrong = 0;

    private static void due(String where, String call, long got, long want) {
        asked++;
        if (got != want) {
            wrong++;
            if (wrong <= 20) {
                System.out.println(where + ": " + call + " answered " + got + ", due is " + want);
            }
        }
    }

    private static void due(String where, String call, boolean got, boolean want) {
        due(where, call, got ? 1 : 0, want ? 1 : 0);
    }

    /** What a part of the cotree adds to the answers for the sets above it. */
    private static final class Part {
        int vertices = 1;
        int largestClique = 1;
        int cliques = 1;
        int stableSets = 1;
        int heaviestStable;
        int strongModules = 1;
        int paths = 1;
    }

    private static final class Model {
        final int newWeight;
        final List<Integer> weights = new ArrayList<>();
        final List<List<Boolean>> edges = new ArrayList<>();
        int[] witness = null;

        Model(int weight) {
            newWeight = Math.max(0, Math.min(100, weight));
        }

        int size() {
            return weights.size();
        }

        boolean isVertex(int v) {
            return 0 <= v && v < size();
        }

        boolean isSet(int set) {
            return 0 <= set && set < Math.round(Math.pow(2, size()));
        }

        boolean adjacent(int u, int v) {
            return isVertex(u) && isVertex(v) && edges.get(u).get(v);
        }

        int addVertex(int neighbours) {
            if (size() == MOST_VERTICES) {
                return CographCotree.FULL;
            }
            if (!isSet(neighbours)) {
                return CographCotree.BAD;
            }
            List<Boolean> row = new ArrayList<>();
            for (int v = 0; v < size(); v++) {
                boolean joined = members(neighbours).contains(v);
                edges.get(v).add(joined);
                row.add(joined);
            }
            row.add(false);
            edges.add(row);
            weights.add(newWeight);
            List<int[]> fourPaths = fourPaths();
            if (fourPaths.isEmpty()) {
                witness = null;
                return size();
            }
            fourPaths.sort(Arrays::compare);
            takeAway(size() - 1);
            witness = fourPaths.get(0);
            return CographCotree.FOUR_PATH;
        }

        void takeAway(int v) {
            edges.remove(v);
            weights.remove(v);
            for (List<Boolean> row : edges) {
                row.remove(v);
            }
        }

        int removeVertex(int v) {
            if (!isVertex(v)) {
                return CographCotree.BAD;
            }
            takeAway(v);
            witness = null;
            return size();
        }

        int complement() {
            int joined = 0;
            for (int u = 0; u < size(); u++) {
                for (int v = 0; v < size(); v++) {
                    edges.get(u).set(v, u != v && !edges.get(u).get(v));
                    joined += u < v && edges.get(u).get(v) ? 1 : 0;
                }
            }
            witness = null;
            return joined;
        }

        boolean setWeight(int v, int weight) {
            if (!isVertex(v) || weight != Math.max(0, Math.min(100, weight))) {
                return false;
            }
            weights.set(v, weight);
            return true;
        }

        /** Found backwards, from the last list to the first, so that the order of the search decides nothing. */
        List<int[]> fourPaths() {
            List<int[]> found = new ArrayList<>();
            int n = size();
            for (int number = n * n * n * n - 1; number >= 0; number--) {
                int[] list = {number % n, number / n % n, number / n / n % n, number / n / n / n};
                if (list[0] < list[3] && isFourPath(list)) {
                    found.add(list);
                }
            }
            return found;
        }

        boolean isFourPath(int[] list) {
            for (int i = 0; i < 4; i++) {
                for (int j = i + 1; j < 4; j++) {
                    if (list[i] == list[j] || adjacent(list[i], list[j]) != (j == i + 1)) {
                        return false;
                    }
                }
            }
            return true;
        }

        int distance(int u, int v) {
            if (!isVertex(u) || !isVertex(v)) {
                return CographCotree.BAD;
            }
            int[][] length = new int[size()][size()];
            for (int a = 0; a < size(); a++) {
                for (int b = 0; b < size(); b++) {
                    length[a][b] = a == b ? 0 : adjacent(a, b) ? 1 : 1000;
                }
            }
            for (int over = 0; over < size(); over++) {
                for (int a = 0; a < size(); a++) {
                    for (int b = 0; b < size(); b++) {
                        length[a][b] = Math.min(length[a][b], length[a][over] + length[over][b]);
                    }
                }
            }
            return length[u][v] >= 1000 ? CographCotree.APART : length[u][v];
        }

        boolean isModule(int set) {
            if (!isSet(set) || set == 0) {
                return false;
            }
            List<Integer> inside = members(set);
            for (int v = 0; v < size(); v++) {
                int outer = v;
                long joined = inside.stream().filter(u -> adjacent(u, outer)).count();
                if (!inside.contains(v) && joined > 0 && joined < inside.size()) {
                    return false;
                }
            }
            return true;
        }

        int witness(int k) {
            return witness == null || k < 0 || k > 3 ? CographCotree.BAD : witness[k];
        }

        int components(int set) {
            return isSet(set) ? split(members(set), true).size() : CographCotree.BAD;
        }

        /** The classes of the vertices that hang together by edges, or by missing edges. */
        List<List<Integer>> split(List<Integer> vertices, boolean byEdges) {
            List<List<Integer>> classes = new ArrayList<>();
            for (int v : vertices) {
                List<Integer> merged = new ArrayList<>(List.of(v));
                List<List<Integer>> others = new ArrayList<>();
                for (List<Integer> some : classes) {
                    boolean meets = some.stream().anyMatch(u -> adjacent(u, v) == byEdges);
                    if (meets) {
                        merged.addAll(some);
                    } else {
                        others.add(some);
                    }
                }
                others.add(merged);
                classes = others;
            }
            return classes;
        }

        Part part(List<Integer> vertices) {
            if (vertices.size() == 1) {
                Part leaf = new Part();
                leaf.heaviestStable = weights.get(vertices.get(0));
                return leaf;
            }
            List<List<Integer>> apart = split(vertices, true);
            boolean joins = apart.size() == 1;
            Part whole = null;
            int strong = 1;
            for (List<Integer> some : joins ? split(vertices, false) : apart) {
                Part next = part(some);
                strong += next.strongModules;
                whole = whole == null ? next : joins ? join(whole, next) : union(whole, next);
            }
            whole.strongModules = strong;
            return whole;
        }

        Part union(Part a, Part b) {
            Part both = new Part();
            both.vertices = a.vertices + b.vertices;
            both.largestClique = Math.max(a.largestClique, b.largestClique);
            both.cliques = a.cliques + b.cliques;
            both.stableSets = (a.stableSets + 1) * (b.stableSets + 1) - 1;
            both.heaviestStable = a.heaviestStable + b.heaviestStable;
            both.paths = a.paths + b.paths;
            return both;
        }

        Part join(Part a, Part b) {
            Part both = new Part();
            both.vertices = a.vertices + b.vertices;
            both.largestClique = a.largestClique + b.largestClique;
            both.cliques = (a.cliques + 1) * (b.cliques + 1) - 1;
            both.stableSets = a.stableSets + b.stableSets;
            both.heaviestStable = Math.max(a.heaviestStable, b.heaviestStable);
            both.paths = Math.max(1, Math.max(a.paths - b.vertices, b.paths - a.vertices));
            return both;
        }

        int measure(int kind) {
            if (kind != 0 && kind != 1) {
                return CographCotree.BAD;
            }
            if (size() == 0) {
                return 0;
            }
            Part whole = part(members((1 << size()) - 1));
            return kind == 0 ? whole.strongModules : whole.paths;
        }

        List<Integer> members(int set) {
            List<Integer> found = new ArrayList<>();
            for (int v = 0; v < MOST_VERTICES; v++) {
                if (set / (1 << v) % 2 == 1) {
                    found.add(v);
                }
            }
            return found;
        }
    }

    private static void compareSet(String where, CographCotree x, Model model, int set) {
        Part part = null;
        int without = CographCotree.BAD;
        if (model.isSet(set)) {
            without = 0;
            part = set == 0 ? null : model.part(model.members(set));
        }
        // In graphs without four-paths the colours needed are as many as the largest clique has vertices.
        int clique = part == null ? without : part.largestClique;
        due(where, "components(" + set + ")", x.components(set), model.components(set));
        due(where, "cliqueNumber(" + set + ")", x.cliqueNumber(set), clique);
        due(where, "colours(" + set + ")", x.colours(set), clique);
        due(where, "cliques(" + set + ")", x.cliques(set), part == null ? without : part.cliques);
        due(where, "stableSets(" + set + ")", x.stableSets(set), part == null ? without : part.stableSets);
        due(where, "heaviestStable(" + set + ")", x.heaviestStable(set), part == null ? without : part.heaviestStable);
        due(where, "isModule(" + set + ")", x.isModule(set), model.isModule(set));
    }

    private static void compareCouple(String where, CographCotree x, Model model, int u, int v) {
        due(where, "adjacent(" + u + ", " + v + ")", x.adjacent(u, v), model.adjacent(u, v));
        due(where, "distance(" + u + ", " + v + ")", x.distance(u, v), model.distance(u, v));
    }

    private static void compareRest(String where, CographCotree x, Model model, int number) {
        due(where, "size()", x.size(), model.size());
        due(where, "measure(" + number + ")", x.measure(number), model.measure(number));
        due(where, "witness(" + number + ")", x.witness(number), model.witness(number));
    }

    private static int[] longer(int[] list, int last) {
        int[] found = Arrays.copyOf(list, list.length + 1);
        found[list.length] = last;
        return found;
    }

    /** Builds the graph anew for each look at it, since an object is promised 512 calls. */
    private static CographCotree built(int[] neighbours) {
        CographCotree x = new CographCotree(7);
        for (int set : neighbours) {
            x.addVertex(set);
        }
        for (int v = 0; v < neighbours.length; v++) {
            x.setWeight(v, v * v % 11);
        }
        return x;
    }

    private static void compareGraph(int[] neighbours, Model model) {
        String where = "graph " + Arrays.toString(neighbours);
        int n = model.size();
        CographCotree x = built(neighbours);
        for (int u = -1; u <= n; u++) {
            for (int v = -1; v <= n; v++) {
                compareCouple(where, x, model, u, v);
            }
        }
        for (int number = -1; number <= 4; number++) {
            compareRest(where, x, model, number);
        }
        x = built(neighbours);
        for (int set = -1; set <= 1 << n; set++) {
            compareSet(where, x, model, set);
        }
    }

    private static Model modelOf(int[] neighbours) {
        Model model = new Model(7);
        for (int set : neighbours) {
            model.addVertex(set);
        }
        for (int v = 0; v < neighbours.length; v++) {
            model.setWeight(v, v * v % 11);
        }
        return model;
    }

    /** Every graph of up to five vertices, and every vertex that could be added to one of them. */
    private static void everySmallGraph() {
        List<int[]> lists = new ArrayList<>();
        lists.add(new int[0]);
        int[] graphs = new int[ALL_GRAPHS_UP_TO + 1];
        for (int at = 0; at < lists.size(); at++) {
            int[] list = lists.get(at);
            Model model = modelOf(list);
            graphs[list.length]++;
            compareGraph(list, model);
            CographCotree x = built(list);
            for (int set = 0; set < 1 << list.length; set++) {
                Model grown = modelOf(list);
                int answer = grown.addVertex(set);
                String where = "graph " + Arrays.toString(list) + " after addVertex(" + set + ")";
                CographCotree y = built(list);
                due(where, "addVertex(" + set + ")", y.addVertex(set), answer);
                for (int k = 0; k < 4; k++) {
                    compareRest(where, y, grown, k);
                }
                if (answer > 0 && answer <= ALL_GRAPHS_UP_TO) {
                    lists.add(longer(list, set));
                }
            }
            due("graph " + Arrays.toString(list), "complement()", x.complement(), model.complement());
            compareRest("complement of " + Arrays.toString(list), x, model, 0);
            compareRest("complement of " + Arrays.toString(list), x, model, 1);
        }
        // The known numbers of such graphs on 0 to 5 numbered vertices: none was lost on the way.
        due("all graphs", "how many", Arrays.equals(graphs, new int[] {1, 1, 2, 8, 52, 472}), true);
    }

    /** A fixed sequence of numbers, the same in every run of the test. */
    private static final class Numbers {
        private long state;

        Numbers(long seed) {
            state = seed;
        }

        int below(int bound) {
            state = state * 6364136223846793005L + 1442695040888963407L;
            return (int) ((state >>> 33) % bound);
        }

        int outside() {
            int[] far = {-1, -2, 8, 9, 32, 255, 256, 257, 1 << 16, Integer.MIN_VALUE, Integer.MAX_VALUE};
            return far[below(far.length)];
        }

        int vertex(int n) {
            return below(12) == 0 ? outside() : below(n + 1);
        }

        int set(int n) {
            return below(12) == 0 ? outside() : below((1 << n) + 1);
        }

        int weight() {
            return below(6) == 0 ? below(2) * 102 - 1 : below(101);
        }
    }

    /** Half of the new vertices are twins of an old one, which are never refused, so that graphs grow to eight. */
    private static int newNeighbours(Numbers numbers, Model model) {
        int n = model.size();
        if (n == 0 || numbers.below(2) == 0) {
            return numbers.set(n);
        }
        int twin = numbers.below(n);
        int neighbours = numbers.below(2) << twin;
        for (int v = 0; v < n; v++) {
            neighbours |= model.adjacent(twin, v) ? 1 << v : 0;
        }
        return neighbours;
    }

    private static void changeOnce(String where, Numbers numbers, CographCotree x, Model model) {
        int n = model.size();
        int choice = numbers.below(12);
        if (choice < 7) {
            int neighbours = newNeighbours(numbers, model);
            due(where, "addVertex(" + neighbours + ")", x.addVertex(neighbours), model.addVertex(neighbours));
        } else if (choice < 9) {
            int v = numbers.vertex(n);
            due(where, "removeVertex(" + v + ")", x.removeVertex(v), model.removeVertex(v));
        } else if (choice < 10) {
            due(where, "complement()", x.complement(), model.complement());
        } else {
            int v = numbers.vertex(n);
            int weight = numbers.weight();
            due(where, "setWeight(" + v + ", " + weight + ")", x.setWeight(v, weight), model.setWeight(v, weight));
        }
    }

    private static void longRun(int run) {
        Numbers numbers = new Numbers(run);
        int weight = numbers.below(140) - 20;
        CographCotree x = new CographCotree(weight);
        Model model = new Model(weight);
        // A round makes at most 22 calls.
        for (int calls = 0; calls + 22 <= CALLS_A_RUN; calls += 22) {
            String where = "run " + run + ", about call " + calls;
            for (int change = 0; change < 4; change++) {
                changeOnce(where, numbers, x, model);
            }
            int n = model.size();
            compareSet(where, x, model, numbers.set(n));
            int u = numbers.vertex(n);
            int v = numbers.vertex(n);
            compareCouple(where, x, model, u, v);
            for (int number = 0; number < 3; number++) {
                compareRest(where, x, model, number);
            }
        }
    }

    public static void main(String[] args) {
        everySmallGraph();
        for (int run = 1; run <= RUNS; run++) {
            longRun(run);
        }
        System.out.println(asked + " answers compared, " + wrong + " not as due");
        if (wrong != 0) {
            System.exit(1);
        }
    }
}
