/**
 * Graphs without induced paths of four vertices, grown vertex by vertex.
 *
 * With at most eight vertices there are at most 256 sets, so every answer is found by going through the sets as the
 * document's definitions stand, rather than through a tree that would have to be kept in step with the graph.
 */
public final class CographCotree {
    public static final int BAD = -1;
    public static final int FULL = -2;
    public static final int FOUR_PATH = -3;
    public static final int APART = -4;

    private static final int MOST_VERTICES = 8;
    private static final int MOST_SETS = 256;
    private static final int MOST_SETS_WITH_LAST = 2048;
    private static final int MOST_WEIGHT = 100;
    private static final int WITNESS_LENGTH = 4;
    private static final int KIND_STRONG_MODULES = 0;
    private static final int KIND_PATHS = 1;

    /** Row v is the set of the vertices joined to v; rows from vertexCount on are not looked at. */
    private final int[] rows = new int[MOST_VERTICES];
    private final int[] weights = new int[MOST_VERTICES];
    private final int[] witnessPath = new int[WITNESS_LENGTH];

    /** Work space: filled anew by each call that reads it, because a method may make no array. */
    private final boolean[] moduleMarks = new boolean[MOST_SETS];
    private final int[] coloursOfSet = new int[MOST_SETS];
    private final int[] pathsOfSetWithLast = new int[MOST_SETS_WITH_LAST];

    private final int newWeight;
    private int vertexCount;
    private boolean hasWitness;

    public CographCotree(int weight) {
        newWeight = weight < 0 ? 0 : weight > MOST_WEIGHT ? MOST_WEIGHT : weight;
        vertexCount = 0;
        hasWitness = false;
    }

    public int addVertex(int neighbours) {
        if (vertexCount >= MOST_VERTICES) {
            return FULL;
        }
        if (!isSet(neighbours)) {
            return BAD;
        }
        joinLast(neighbours);
        // The old graph has no four-path, so one that is found here goes through the new vertex.
        if (keepFirstFourPath()) {
            unjoinLast();
            return FOUR_PATH;
        }
        hasWitness = false;
        return vertexCount;
    }

    public int removeVertex(int v) {
        if (!isVertex(v)) {
            return BAD;
        }
        for (int u = v; u < vertexCount - 1; u++) {
            rows[u] = rows[u + 1];
            weights[u] = weights[u + 1];
        }
        vertexCount--;
        for (int u = 0; u < vertexCount; u++) {
            rows[u] = withoutPlace(rows[u], v);
        }
        hasWitness = false;
        return vertexCount;
    }

    public int complement() {
        // No search for a four-path is needed: the complement of a four-path is a four-path again.
        for (int v = 0; v < vertexCount; v++) {
            rows[v] = wholeSet() & ~rows[v] & ~(1 << v);
        }
        hasWitness = false;
        return edgeCount();
    }

    public boolean setWeight(int v, int weight) {
        if (!isVertex(v) || weight < 0 || weight > MOST_WEIGHT) {
            return false;
        }
        weights[v] = weight;
        return true;
    }

    public int size() {
        return vertexCount;
    }

    public boolean adjacent(int u, int v) {
        return isVertex(u) && isVertex(v) && joined(u, v);
    }

    public int distance(int u, int v) {
        if (!isVertex(u) || !isVertex(v)) {
            return BAD;
        }
        int reached = 1 << u;
        for (int steps = 0; steps < vertexCount; steps++) {
            if (contains(reached, v)) {
                return steps;
            }
            reached |= neighboursOf(reached);
        }
        return APART;
    }

    public int components(int set) {
        if (!isSet(set)) {
            return BAD;
        }
        int found = 0;
        int seen = 0;
        for (int v = 0; v < vertexCount; v++) {
            if (contains(set, v) && !contains(seen, v)) {
                seen |= componentOf(v, set);
                found++;
            }
        }
        return found;
    }

    public int cliqueNumber(int set) {
        if (!isSet(set)) {
            return BAD;
        }
        int largest = 0;
        for (int part = 1; part <= set; part++) {
            if (isWithin(part, set) && isClique(part)) {
                int members = memberCount(part);
                largest = members > largest ? members : largest;
            }
        }
        return largest;
    }

    public int cliques(int set) {
        if (!isSet(set)) {
            return BAD;
        }
        int found = 0;
        for (int part = 1; part <= set; part++) {
            if (isWithin(part, set) && isClique(part)) {
                found++;
            }
        }
        return found;
    }

    public int stableSets(int set) {
        if (!isSet(set)) {
            return BAD;
        }
        int found = 0;
        for (int part = 1; part <= set; part++) {
            if (isWithin(part, set) && isStable(part)) {
                found++;
            }
        }
        return found;
    }

    public int heaviestStable(int set) {
        if (!isSet(set)) {
            return BAD;
        }
        // Weights are never below 0, so beginning with 0 can't hide a stable set.
        int heaviest = 0;
        for (int part = 1; part <= set; part++) {
            if (isWithin(part, set) && isStable(part)) {
                int sum = weightOf(part);
                heaviest = sum > heaviest ? sum : heaviest;
            }
        }
        return heaviest;
    }

    public int colours(int set) {
        if (!isSet(set)) {
            return BAD;
        }
        coloursOfSet[0] = 0;
        // A part of a set is a smaller number than the set, so its entry is there before it is needed.
        for (int part = 1; part <= set; part++) {
            if (isWithin(part, set)) {
                coloursOfSet[part] = fewestColours(part);
            }
        }
        return coloursOfSet[set];
    }

    public boolean isModule(int set) {
        return isSet(set) && set != 0 && seenAlikeFromOutside(set);
    }

    public int measure(int kind) {
        if (kind == KIND_STRONG_MODULES) {
            return strongModuleCount();
        }
        if (kind == KIND_PATHS) {
            return fewestPaths();
        }
        return BAD;
    }

    public int witness(int k) {
        if (!hasWitness || k < 0 || k >= WITNESS_LENGTH) {
            return BAD;
        }
        return witnessPath[k];
    }

    private boolean isVertex(int v) {
        return v >= 0 && v < vertexCount;
    }

    private boolean isSet(int set) {
        return set >= 0 && set <= wholeSet();
    }

    private int wholeSet() {
        return (1 << vertexCount) - 1;
    }

    private static boolean contains(int set, int v) {
        return ((set >> v) & 1) == 1;
    }

    private static boolean isWithin(int part, int set) {
        return (part & ~set) == 0;
    }

    private static int memberCount(int set) {
        int members = 0;
        for (int v = 0; v < MOST_VERTICES; v++) {
            members += (set >> v) & 1;
        }
        return members;
    }

    private boolean joined(int u, int v) {
        return contains(rows[u], v);
    }

    private void joinLast(int neighbours) {
        int added = vertexCount;
        for (int v = 0; v < added; v++) {
            if (contains(neighbours, v)) {
                rows[v] |= 1 << added;
            }
        }
        rows[added] = neighbours;
        weights[added] = newWeight;
        vertexCount++;
    }

    private void unjoinLast() {
        vertexCount--;
        for (int v = 0; v < vertexCount; v++) {
            rows[v] &= ~(1 << vertexCount);
        }
    }

    /** The set after its vertex v, if it is there, has gone and those above it are each one down. */
    private static int withoutPlace(int set, int v) {
        int below = set & ((1 << v) - 1);
        int above = (set >> (v + 1)) << v;
        return below | above;
    }

    /** The loops go in the order in which lists are compared, so the first four-path met is the first of all. */
    private boolean keepFirstFourPath() {
        for (int a = 0; a < vertexCount; a++) {
            for (int b = 0; b < vertexCount; b++) {
                for (int c = 0; c < vertexCount; c++) {
                    for (int d = a + 1; d < vertexCount; d++) {
                        if (isFourPath(a, b, c, d)) {
                            keepWitness(a, b, c, d);
                            return true;
                        }
                    }
                }
            }
        }
        return false;
    }

    /** For a < d. That the four differ follows: were a = c or b = d, an edge would be asked for and forbidden. */
    private boolean isFourPath(int a, int b, int c, int d) {
        return joined(a, b) && joined(b, c) && joined(c, d) && !joined(a, c) && !joined(a, d) && !joined(b, d);
    }

    private void keepWitness(int a, int b, int c, int d) {
        witnessPath[0] = a;
        witnessPath[1] = b;
        witnessPath[2] = c;
        witnessPath[3] = d;
        hasWitness = true;
    }

    private int edgeCount() {
        int ends = 0;
        for (int v = 0; v < vertexCount; v++) {
            ends += memberCount(rows[v]);
        }
        return ends / 2;
    }

    private int neighboursOf(int set) {
        int neighbours = 0;
        for (int v = 0; v < vertexCount; v++) {
            if (contains(set, v)) {
                neighbours |= rows[v];
            }
        }
        return neighbours;
    }

    private int componentOf(int start, int set) {
        int reached = 1 << start;
        for (int steps = 0; steps < vertexCount; steps++) {
            reached |= neighboursOf(reached) & set;
        }
        return reached;
    }

    private boolean isClique(int set) {
        for (int v = 0; v < vertexCount; v++) {
            if (contains(set, v) && !isWithin(set, rows[v] | (1 << v))) {
                return false;
            }
        }
        return true;
    }

    private boolean isStable(int set) {
        return (neighboursOf(set) & set) == 0;
    }

    private int weightOf(int set) {
        int sum = 0;
        for (int v = 0; v < vertexCount; v++) {
            if (contains(set, v)) {
                sum += weights[v];
            }
        }
        return sum;
    }

    /** Needs the entries of coloursOfSet for all smaller parts of the set. */
    private int fewestColours(int set) {
        int fewest = MOST_VERTICES;
        for (int oneColour = 1; oneColour <= set; oneColour++) {
            if (isWithin(oneColour, set) && isStable(oneColour)) {
                int needed = 1 + coloursOfSet[set & ~oneColour];
                fewest = needed < fewest ? needed : fewest;
            }
        }
        return fewest;
    }

    private boolean seenAlikeFromOutside(int set) {
        for (int v = 0; v < vertexCount; v++) {
            int met = rows[v] & set;
            if (!contains(set, v) && met != 0 && met != set) {
                return false;
            }
        }
        return true;
    }

    private int strongModuleCount() {
        int whole = wholeSet();
        for (int set = 1; set <= whole; set++) {
            moduleMarks[set] = seenAlikeFromOutside(set);
        }
        int strong = 0;
        for (int set = 1; set <= whole; set++) {
            if (moduleMarks[set] && overlapsNoModule(set)) {
                strong++;
            }
        }
        return strong;
    }

    /** Needs moduleMarks for all sets of the graph. */
    private boolean overlapsNoModule(int set) {
        int whole = wholeSet();
        for (int other = 1; other <= whole; other++) {
            if (moduleMarks[other] && overlap(set, other)) {
                return false;
            }
        }
        return true;
    }

    private static boolean overlap(int one, int other) {
        return (one & other) != 0 && !isWithin(one, other) && !isWithin(other, one);
    }

    /**
     * Paths laid end to end make a list of all vertices, in which a new path must begin wherever two neighbours in
     * the list are not joined; so the best list, built up by its set of vertices and its last one, tells the number.
     */
    private int fewestPaths() {
        int whole = wholeSet();
        for (int set = 1; set <= whole; set++) {
            for (int last = 0; last < vertexCount; last++) {
                if (contains(set, last)) {
                    pathsOfSetWithLast[set * MOST_VERTICES + last] = fewestPathsWithLast(set, last);
                }
            }
        }
        int fewest = vertexCount;
        for (int last = 0; last < vertexCount; last++) {
            int paths = pathsOfSetWithLast[whole * MOST_VERTICES + last];
            fewest = paths < fewest ? paths : fewest;
        }
        return fewest;
    }

    /** Needs the entries of pathsOfSetWithLast for the set without its last vertex. */
    private int fewestPathsWithLast(int set, int last) {
        int before = set & ~(1 << last);
        if (before == 0) {
            return 1;
        }
        int fewest = MOST_VERTICES;
        for (int v = 0; v < vertexCount; v++) {
            if (contains(before, v)) {
                int paths = pathsOfSetWithLast[before * MOST_VERTICES + v] + (joined(v, last) ? 0 : 1);
                fewest = paths < fewest ? paths : fewest;
            }
        }
        return fewest;
    }
}
