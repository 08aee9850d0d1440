import java.util.ArrayDeque;
import java.util.ArrayList;
import java.util.Deque;
import java.util.HashSet;
import java.util.List;
import java.util.Set;
import java.util.TreeSet;

/**
 * Each promise against values worked out by hand, against wrong inputs, and, for every number of
 * points, against a model that reaches its answers by other ways than the program.
 */
public final class PromisesTest {
    private static final int MOST_CALLS = 512;
    private static final int[] NO_GRAPH_EVER =
        {-1, -2, -1024, 1024, 1025, 65536, Integer.MAX_VALUE, Integer.MIN_VALUE};

    private static int wrong = 0;

    private static void due(String call, long got, long want) {
        if (got != want) {
            wrong++;
            if (wrong <= 50) System.out.println(call + " answered " + got + ", due is " + want);
        }
    }

    private static void due(String call, boolean got, boolean want) {
        due(call, got ? 1 : 0, want ? 1 : 0);
    }

    /** Hands out one object until it has had the calls that the document allows, then a new one. */
    private static final class Supply {
        private final int points;
        private GraphCatalogue current;
        private int calls = MOST_CALLS;

        Supply(int points) {
            this.points = points;
        }

        GraphCatalogue next() {
            if (calls == MOST_CALLS) {
                current = new GraphCatalogue(points);
                calls = 0;
            }
            calls++;
            return current;
        }
    }

    /** Classes found by swapping two neighbouring points again and again until nothing new comes. */
    private static final class Model {
        final int n;
        final int couples;
        final int graphs;
        final int[] leader;
        final List<Set<Integer>> members = new ArrayList<>();
        final TreeSet<Integer> leaders = new TreeSet<>();

        Model(int n) {
            this.n = n;
            couples = n * (n - 1) / 2;
            graphs = 1 << couples;
            leader = new int[graphs];
            for (int g = 0; g < graphs; g++) {
                Set<Integer> flood = flood(g);
                members.add(flood);
                leader[g] = new TreeSet<>(flood).first();
                leaders.add(leader[g]);
            }
        }

        boolean[][] matrix(int graph) {
            boolean[][] edge = new boolean[n][n];
            int bit = 0;
            for (int j = 0; j < n; j++) {
                for (int i = 0; i < j; i++) {
                    edge[i][j] = edge[j][i] = (graph & 1 << bit) != 0;
                    bit++;
                }
            }
            return edge;
        }

        int swapped(int graph, int a, int b) {
            boolean[][] edge = matrix(graph);
            int result = 0;
            int bit = 0;
            for (int j = 0; j < n; j++) {
                for (int i = 0; i < j; i++) {
                    int from = i == a ? b : i == b ? a : i;
                    int to = j == a ? b : j == b ? a : j;
                    if (edge[from][to]) result |= 1 << bit;
                    bit++;
                }
            }
            return result;
        }

        Set<Integer> flood(int graph) {
            Set<Integer> seen = new HashSet<>();
            Deque<Integer> open = new ArrayDeque<>();
            seen.add(graph);
            open.add(graph);
            while (!open.isEmpty()) {
                int g = open.remove();
                for (int a = 0; a + 1 < n; a++) {
                    int next = swapped(g, a, a + 1);
                    if (seen.add(next)) open.add(next);
                }
            }
            return seen;
        }

        int symmetries(int graph) {
            int renamings = 1;
            for (int f = 2; f <= n; f++) renamings *= f;
            return renamings / members.get(graph).size();
        }

        int classesWith(int edges) {
            return (int) leaders.stream().filter(g -> Integer.bitCount(g) == edges).count();
        }

        boolean isConnected(int graph) {
            boolean[][] way = matrix(graph);
            for (int k = 0; k < n; k++) {
                for (int i = 0; i < n; i++) {
                    for (int j = 0; j < n; j++) way[i][j] |= way[i][k] && way[k][j];
                }
            }
            for (int i = 0; i < n; i++) {
                for (int j = 0; j < n; j++) {
                    if (i != j && !way[i][j]) return false;
                }
            }
            return true;
        }

        int extensions(int graph) {
            Set<Integer> found = new HashSet<>();
            for (int h = 0; h < graphs; h++) {
                boolean oneMore = (h & graph) == graph && Integer.bitCount(h ^ graph) == 1;
                if (oneMore) found.add(leader[h]);
            }
            return found.size();
        }

        /** All graphs that contain the part: its class, and whatever adding edges makes of it. */
        boolean[] holders(int part) {
            boolean[] holds = new boolean[graphs];
            for (int g = 0; g < graphs; g++) {
                holds[g] = members.get(part).contains(g);
                for (int c = 0; c < couples; c++) {
                    if ((g & 1 << c) != 0 && holds[g ^ 1 << c]) holds[g] = true;
                }
            }
            return holds;
        }

        int selfOpposite() {
            return (int) leaders.stream().filter(g -> leader[g ^ (graphs - 1)] == g).count();
        }
    }

    // Promise 1 and promise 12.
    private static void newObjectAndPoints() {
        int[] given = {Integer.MIN_VALUE, -7, -1, 0, 1, 2, 3, 4, 5, 6, 7, 100, Integer.MAX_VALUE};
        int[] points = {1, 1, 1, 1, 1, 2, 3, 4, 5, 5, 5, 5, 5};
        int[] classes = {0, 1, 2, 4, 11, 34};
        for (int k = 0; k < given.length; k++) {
            GraphCatalogue x = new GraphCatalogue(given[k]);
            int n = points[k];
            int graphs = 1 << n * (n - 1) / 2;
            String made = "new(" + given[k] + ").";
            due(made + "points()", x.points(), n);
            due(made + "classes()", x.classes(), classes[n]);
            due(made + "leader(last graph)", x.leader(graphs - 1), graphs - 1);
            due(made + "leader(past the last graph)", x.leader(graphs), -1);
        }
    }

    // Promise 2.
    private static void leader() {
        GraphCatalogue x = new GraphCatalogue(4);
        due("4: leader(0)", x.leader(0), 0);
        due("4: leader(one edge, 2-3)", x.leader(32), 1);
        due("4: leader(0-3 and 1-2)", x.leader(12), 12);
        due("4: leader(0-1 and 2-3)", x.leader(33), 12);
        due("4: leader(triangle 1-2-3)", x.leader(4 + 16 + 32), 7);
        due("4: leader(star at 3)", x.leader(8 + 16 + 32), 11);
        due("4: leader(64)", x.leader(64), -1);
        due("2: leader(1)", new GraphCatalogue(2).leader(1), 1);
        due("2: leader(2)", new GraphCatalogue(2).leader(2), -1);
    }

    // Promise 3 and promise 4.
    private static void symmetriesAndAlike() {
        GraphCatalogue x = new GraphCatalogue(5);
        int ring = 1 + 4 + 32 + 512 + 64;
        due("5: symmetries(ring 0-1-2-3-4)", x.symmetries(ring), 10);
        due("5: alike(ring 0-1-2-3-4)", x.alike(ring), 12);
        int starAt4 = 64 + 128 + 256 + 512;
        due("5: symmetries(star at 4)", x.symmetries(starAt4), 24);
        due("5: alike(star at 4)", x.alike(starAt4), 5);
        int path = 1 + 4 + 32 + 512;
        due("5: symmetries(path)", x.symmetries(path), 2);
        due("5: alike(path)", x.alike(path), 60);
        due("5: symmetries(0)", x.symmetries(0), 120);
        due("5: alike(1023)", x.alike(1023), 1);
        GraphCatalogue two = new GraphCatalogue(2);
        due("2: symmetries(1)", two.symmetries(1), 2);
        due("2: symmetries(2)", two.symmetries(2), -1);
        due("2: alike(1)", two.alike(1), 1);
        due("2: alike(2)", two.alike(2), -1);
    }

    // Promises 5, 6 and 7.
    private static void listOfClasses() {
        int[] classes = {1, 2, 4, 11, 34};
        int[][] byEdges = {{1}, {1, 1}, {1, 1, 1, 1}, {1, 1, 2, 3, 2, 1, 1},
            {1, 1, 2, 4, 6, 6, 6, 4, 2, 1, 1}};
        for (int n = 1; n <= 5; n++) {
            GraphCatalogue x = new GraphCatalogue(n);
            int[] row = byEdges[n - 1];
            due(n + ": classes()", x.classes(), classes[n - 1]);
            for (int e = 0; e < row.length; e++) {
                due(n + ": classesWith(" + e + ")", x.classesWith(e), row[e]);
            }
            for (int e : new int[] {-1, row.length, 64, Integer.MAX_VALUE, Integer.MIN_VALUE}) {
                due(n + ": classesWith(" + e + ")", x.classesWith(e), 0);
            }
            int count = classes[n - 1];
            due(n + ": entry(0)", x.entry(0), 0);
            due(n + ": entry(last)", x.entry(count - 1), (1 << row.length - 1) - 1);
            for (int k : new int[] {-1, count, 1024, Integer.MAX_VALUE, Integer.MIN_VALUE}) {
                due(n + ": entry(" + k + ")", x.entry(k), -1);
            }
        }
        int[] leadersOfFour = {0, 1, 3, 7, 11, 12, 13, 15, 30, 31, 63};
        GraphCatalogue x = new GraphCatalogue(4);
        for (int k = 0; k < leadersOfFour.length; k++) {
            due("4: entry(" + k + ")", x.entry(k), leadersOfFour[k]);
        }
    }

    // Promises 8, 11 and 13.
    private static void connectedAndSelfOpposite() {
        int[] connected = {1, 1, 2, 6, 21};
        int[] selfOpposite = {1, 0, 0, 1, 2};
        for (int n = 1; n <= 5; n++) {
            due(n + ": connected()", new GraphCatalogue(n).connected(), connected[n - 1]);
            due(n + ": selfOpposite()", new GraphCatalogue(n).selfOpposite(), selfOpposite[n - 1]);
        }
    }

    // Promise 9.
    private static void extensions() {
        GraphCatalogue x = new GraphCatalogue(4);
        due("4: extensions(0)", x.extensions(0), 1);
        due("4: extensions(one edge)", x.extensions(32), 2);
        due("4: extensions(ring)", x.extensions(1 + 4 + 32 + 8), 1);
        due("4: extensions(path)", x.extensions(1 + 4 + 32), 2);
        due("4: extensions(all but one)", x.extensions(62), 1);
        due("4: extensions(63)", x.extensions(63), 0);
        due("4: extensions(64)", x.extensions(64), -1);
        due("2: extensions(0)", new GraphCatalogue(2).extensions(0), 1);
        due("2: extensions(1)", new GraphCatalogue(2).extensions(1), 0);
    }

    // Promise 10.
    private static void contains() {
        GraphCatalogue x = new GraphCatalogue(4);
        int ring = 1 + 4 + 32 + 8;
        int starAt3 = 8 + 16 + 32;
        due("4: ring has two edges apart", x.contains(ring, 12), true);
        due("4: ring has no triangle", x.contains(ring, 7), false);
        due("4: ring has no star", x.contains(ring, starAt3), false);
        due("4: star has no two edges apart", x.contains(starAt3, 33), false);
        due("4: star has a path of two edges", x.contains(starAt3, 3), true);
        due("4: a graph has itself", x.contains(ring, ring), true);
        due("4: the empty graph has itself", x.contains(0, 0), true);
        due("4: part and graph are not changed about", x.contains(3, 7), false);
        due("4: contains(64, 0)", x.contains(64, 0), false);
        due("4: contains(63, 64)", x.contains(63, 64), false);
        due("4: contains(-1, 0)", x.contains(-1, 0), false);
        due("4: contains(63, -1)", x.contains(63, -1), false);
    }

    private static void wrongGraphs() {
        for (int n = 0; n <= 6; n++) {
            GraphCatalogue x = new GraphCatalogue(n);
            for (int g : NO_GRAPH_EVER) {
                due(n + ": leader(" + g + ")", x.leader(g), -1);
                due(n + ": symmetries(" + g + ")", x.symmetries(g), -1);
                due(n + ": alike(" + g + ")", x.alike(g), -1);
                due(n + ": extensions(" + g + ")", x.extensions(g), -1);
                due(n + ": contains(" + g + ", 0)", x.contains(g, 0), false);
                due(n + ": contains(0, " + g + ")", x.contains(0, g), false);
                due(n + ": contains(" + g + ", " + g + ")", x.contains(g, g), false);
            }
        }
    }

    private static void everyGraphAgainstTheModel(Model model) {
        Supply supply = new Supply(model.n);
        for (int g = 0; g < model.graphs; g++) {
            String of = model.n + ": of graph " + g + " ";
            due(of + "leader", supply.next().leader(g), model.leader[g]);
            due(of + "symmetries", supply.next().symmetries(g), model.symmetries(g));
            due(of + "alike", supply.next().alike(g), model.members.get(g).size());
            due(of + "extensions", supply.next().extensions(g), model.extensions(g));
        }
        for (int g = model.graphs; g < 1100; g++) {
            String of = model.n + ": of no graph " + g + " ";
            due(of + "leader", supply.next().leader(g), -1);
            due(of + "symmetries", supply.next().symmetries(g), -1);
            due(of + "alike", supply.next().alike(g), -1);
            due(of + "extensions", supply.next().extensions(g), -1);
            due(of + "contains", supply.next().contains(g, 0), false);
            due(of + "contains as part", supply.next().contains(model.graphs - 1, g), false);
        }
    }

    private static void everyPairAgainstTheModel(Model model) {
        Supply supply = new Supply(model.n);
        for (int part = 0; part < model.graphs; part++) {
            boolean[] holds = model.holders(part);
            for (int g = 0; g < model.graphs; g++) {
                boolean got = supply.next().contains(g, part);
                if (got != holds[g]) due(model.n + ": contains(" + g + ", " + part + ")", got, holds[g]);
            }
        }
    }

    private static void catalogueAgainstTheModel(Model model) {
        GraphCatalogue x = new GraphCatalogue(model.n);
        due(model.n + ": classes()", x.classes(), model.leaders.size());
        int k = 0;
        int connected = 0;
        for (int leader : model.leaders) {
            due(model.n + ": entry(" + k + ")", x.entry(k), leader);
            k++;
            if (model.isConnected(leader)) connected++;
        }
        due(model.n + ": entry(past the last)", x.entry(k), -1);
        for (int e = -3; e <= 40; e++) {
            due(model.n + ": classesWith(" + e + ")", x.classesWith(e), model.classesWith(e));
        }
        due(model.n + ": connected()", x.connected(), connected);
        due(model.n + ": selfOpposite()", x.selfOpposite(), model.selfOpposite());
        due(model.n + ": points()", x.points(), model.n);
    }

    /** Two objects side by side, each to its last promised call: no call sways a later answer. */
    private static void answersStayTheSame() {
        GraphCatalogue five = new GraphCatalogue(5);
        GraphCatalogue three = new GraphCatalogue(3);
        for (int round = 0; round < 32; round++) {
            for (int n = 3; n <= 5; n += 2) {
                GraphCatalogue x = n == 5 ? five : three;
                String when = n + ": round " + round + " ";
                due(when + "leader(6)", x.leader(6), 3);
                due(when + "leader(-1)", x.leader(-1), -1);
                due(when + "symmetries(7)", x.symmetries(7), n == 5 ? 12 : 6);
                due(when + "alike(7)", x.alike(7), n == 5 ? 10 : 1);
                due(when + "classes()", x.classes(), n == 5 ? 34 : 4);
                due(when + "classesWith(2)", x.classesWith(2), n == 5 ? 2 : 1);
                due(when + "classesWith(-1)", x.classesWith(-1), 0);
                due(when + "entry(3)", x.entry(3), 7);
                due(when + "entry(34)", x.entry(34), -1);
                due(when + "connected()", x.connected(), n == 5 ? 21 : 2);
                due(when + "extensions(1)", x.extensions(1), n == 5 ? 2 : 1);
                due(when + "extensions(1024)", x.extensions(1024), -1);
                due(when + "contains(6, 1)", x.contains(6, 1), true);
                due(when + "contains(6, 7)", x.contains(6, 7), false);
                due(when + "selfOpposite()", x.selfOpposite(), n == 5 ? 2 : 0);
                due(when + "points()", x.points(), n);
            }
        }
    }

    public static void main(String[] args) {
        newObjectAndPoints();
        leader();
        symmetriesAndAlike();
        listOfClasses();
        connectedAndSelfOpposite();
        extensions();
        contains();
        wrongGraphs();
        answersStayTheSame();
        for (int n = 1; n <= 5; n++) {
            Model model = new Model(n);
            catalogueAgainstTheModel(model);
            everyGraphAgainstTheModel(model);
            everyPairAgainstTheModel(model);
        }
        System.out.println(wrong == 0 ? "all answers are as due" : wrong + " answers are not as due");
        if (wrong != 0) System.exit(1);
    }
}
