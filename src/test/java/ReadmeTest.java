/** The run of calls that README.md shows under "Use", so that its answers stay true. */
public final class ReadmeTest {
    private static int wrong = 0;

    private static void due(String call, int got, int want) {
        if (got != want) {
            wrong++;
            System.out.println(call + " answered " + got + ", README.md says " + want);
        }
    }

    public static void main(String[] args) {
        CographCotree graph = new CographCotree(5);
        due("addVertex(0)", graph.addVertex(0), 1);
        due("addVertex(1)", graph.addVertex(1), 2);
        due("addVertex(2)", graph.addVertex(2), 3);
        due("addVertex(4)", graph.addVertex(4), CographCotree.FOUR_PATH);
        due("witness(3)", graph.witness(3), 3);
        due("distance(0, 2)", graph.distance(0, 2), 2);
        due("heaviestStable(7)", graph.heaviestStable(7), 10);
        due("measure(0)", graph.measure(0), 5);
        due("measure(1)", graph.measure(1), 1);
        due("complement()", graph.complement(), 1);
        due("distance(0, 1)", graph.distance(0, 1), CographCotree.APART);
        due("removeVertex(1)", graph.removeVertex(1), 2);
        due("adjacent(0, 1)", graph.adjacent(0, 1) ? 1 : 0, 1);
        System.out.println("README.md's run, " + wrong + " not as due");
        System.exit(wrong == 0 ? 0 : 1);
    }
}
