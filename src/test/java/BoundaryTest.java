import java.util.HashSet;
import java.util.Set;

/**
 * One test for each sentence of the document that names a boundary case. The list in main sets
 * each sentence beside its test; a fault is told with both.
 */
public final class BoundaryTest {
    private static final int MIN = Integer.MIN_VALUE;
    private static final int MAX = Integer.MAX_VALUE;
    private static final int MOST_CALLS = 512;

    // By the number of points; nothing stands at 0.
    private static final int[] COUPLES = {0, 0, 1, 3, 6, 10};
    private static final int[] GRAPHS = {0, 1, 2, 8, 64, 1024};
    private static final int[] RENAMINGS = {0, 1, 2, 6, 24, 120};
    private static final int[] CLASSES = {0, 1, 2, 4, 11, 34};
    private static final int[] CONNECTED = {0, 1, 1, 2, 6, 21};
    private static final int[] SELF_OPPOSITE = {0, 1, 0, 0, 1, 2};

    private static String test = "";
    private static String broken = "";
    private static int wrong = 0;

    private static void due(String call, long got, long want) {
        if (got != want) fault(call + " answered " + got + ", due is " + want);
    }

    private static void due(String call, boolean got, boolean want) {
        if (got != want) fault(call + " answered " + got + ", due is " + want);
    }

    private static void fault(String what) {
        wrong++;
        if (!broken.isEmpty()) System.out.println(test + " finds broken: \"" + broken + "\"");
        broken = "";
        if (wrong <= 50) System.out.println("    " + what);
    }

    /** A test that breaks off is a fault like another, so that the tests after it still run. */
    private static void sentence(String words, String name, Runnable body) {
        test = name;
        broken = words;
        try {
            body.run();
        } catch (RuntimeException | StackOverflowError thrown) {
            fault("broke off with " + thrown);
        }
    }

    private static GraphCatalogue of(int points) {
        return new GraphCatalogue(points);
    }

    /**
     * Numbers that are no graph of n points: just below the first and just above the last, those
     * that are a graph of more points, and those whose low bits look like a graph.
     */
    private static int[] noGraphs(int n) {
        int past = GRAPHS[n];
        return new int[] {-1, -2, -past, -1024, MIN, MIN + 1, past, past + 1, 2 * past - 1, 2 * past,
            1024, 1025, 2047, 65536, 65537, 1 << 30, MAX - 1, MAX};
    }

    // What it is.

    private static final int KINDS = 22;

    /** One call of each method that is answered, and one of each that is refused, on five points. */
    private static void askOfFive(GraphCatalogue x, int kind, int call) {
        String when = "call " + call + ": ";
        switch (kind) {
            case 0 -> due(when + "leader(512)", x.leader(512), 1);
            case 1 -> due(when + "leader(1024)", x.leader(1024), -1);
            case 2 -> due(when + "symmetries(1)", x.symmetries(1), 12);
            case 3 -> due(when + "symmetries(-1)", x.symmetries(-1), -1);
            case 4 -> due(when + "alike(1)", x.alike(1), 10);
            case 5 -> due(when + "alike(1024)", x.alike(1024), -1);
            case 6 -> due(when + "classes()", x.classes(), 34);
            case 7 -> due(when + "classesWith(5)", x.classesWith(5), 6);
            case 8 -> due(when + "classesWith(11)", x.classesWith(11), 0);
            case 9 -> due(when + "classesWith(-1)", x.classesWith(-1), 0);
            case 10 -> due(when + "entry(33)", x.entry(33), 1023);
            case 11 -> due(when + "entry(34)", x.entry(34), -1);
            case 12 -> due(when + "entry(-1)", x.entry(-1), -1);
            case 13 -> due(when + "connected()", x.connected(), 21);
            case 14 -> due(when + "extensions(1)", x.extensions(1), 2);
            case 15 -> due(when + "extensions(-1)", x.extensions(-1), -1);
            case 16 -> due(when + "contains(63, 7)", x.contains(63, 7), true);
            case 17 -> due(when + "contains(0, 1)", x.contains(0, 1), false);
            case 18 -> due(when + "contains(1024, 0)", x.contains(1024, 0), false);
            case 19 -> due(when + "contains(1023, -1)", x.contains(1023, -1), false);
            case 20 -> due(when + "selfOpposite()", x.selfOpposite(), 2);
            default -> due(when + "points()", x.points(), 5);
        }
    }

    private static void everyKindOfCallIsRightAsTheLastOneAllowed() {
        for (int shift = 0; shift < KINDS; shift++) {
            GraphCatalogue x = of(5);
            for (int call = 1; call <= MOST_CALLS; call++) askOfFive(x, (call + shift) % KINDS, call);
        }
    }

    private static void oneMethodAloneMayHaveAllCalls() {
        for (int kind = 0; kind < KINDS; kind++) {
            GraphCatalogue x = of(5);
            for (int call = 1; call <= MOST_CALLS; call++) askOfFive(x, kind, call);
        }
    }

    /** The answers are free here and not looked at; that a call comes back is LANGUAGE.md, rule 7. */
    private static void laterCallsComeBack() {
        GraphCatalogue x = of(5);
        int[] numbers = {0, 1, 1023, 1024, -1, MIN, MAX};
        for (int round = 0; round < 100; round++) {
            for (int number : numbers) {
                x.leader(number);
                x.symmetries(number);
                x.alike(number);
                x.classes();
                x.classesWith(number);
                x.entry(number);
                x.connected();
                x.extensions(number);
                x.contains(number, 1023);
                x.contains(1023, number);
                x.selfOpposite();
                x.points();
            }
        }
    }

    // Terms.

    private static void everyNumberOfPointsFromOneToFive() {
        for (int n = 1; n <= 5; n++) {
            due(n + ": points()", of(n).points(), n);
            due(n + ": symmetries(0)", of(n).symmetries(0), RENAMINGS[n]);
        }
    }

    private static void firstAndLastCouples() {
        due("2: leader(only couple)", of(2).leader(1), 1);
        // The couples of the first three points come first, those of the last point come last.
        due("5: symmetries(triangle 0-1-2)", of(5).symmetries(1 + 2 + 4), 12);
        due("5: leader(star at 4)", of(5).leader(64 + 128 + 256 + 512), 1 + 2 + 8 + 64);
        due("5: leader(triangle 2-3-4)", of(5).leader(32 + 256 + 512), 7);
        due("5: leader(0-1 and 3-4)", of(5).leader(1 + 512), 4 + 8);
        due("5: leader(0-4 and 3-4)", of(5).leader(64 + 512), 3);
        // Couple 5 must be 2-3: with the first triangle it makes a tail, not a second triangle.
        due("4: alike(triangle 0-1-2 and 2-3)", of(4).alike(7 + 32), 12);
    }

    private static void firstAndLastGraph() {
        for (int n = 1; n <= 5; n++) {
            int last = GRAPHS[n] - 1;
            due(n + ": leader(first)", of(n).leader(0), 0);
            due(n + ": leader(last)", of(n).leader(last), last);
            due(n + ": alike(first)", of(n).alike(0), 1);
            due(n + ": alike(last)", of(n).alike(last), 1);
            due(n + ": contains(last, last)", of(n).contains(last, last), true);
            due(n + ": leader(before the first)", of(n).leader(-1), -1);
            due(n + ": leader(after the last)", of(n).leader(last + 1), -1);
            due(n + ": contains(last, after the last)", of(n).contains(last, last + 1), false);
            due(n + ": contains(after the last, first)", of(n).contains(last + 1, 0), false);
        }
    }

    private static void everyRenamingCountsOnce() {
        for (int n = 1; n <= 5; n++) {
            int last = GRAPHS[n] - 1;
            due(n + ": symmetries(first)", of(n).symmetries(0), RENAMINGS[n]);
            due(n + ": symmetries(last)", of(n).symmetries(last), RENAMINGS[n]);
            for (int g = 0; g <= last; g++) {
                GraphCatalogue x = of(n);
                due(n + ": symmetries * alike of " + g, x.symmetries(g) * x.alike(g), RENAMINGS[n]);
            }
        }
    }

    private static void theRenamingThatChangesNothingCounts() {
        due("1: symmetries(0)", of(1).symmetries(0), 1);
        for (int n = 1; n <= 5; n++) {
            for (int g = 0; g < GRAPHS[n]; g++) {
                GraphCatalogue x = of(n);
                due(n + ": symmetries(" + g + ") is 1 or more", x.symmetries(g) >= 1, true);
                due(n + ": alike(" + g + ") is 1 or more", x.alike(g) >= 1, true);
                due(n + ": contains(" + g + ", itself)", x.contains(g, g), true);
            }
        }
    }

    private static void alikeJustByARenaming() {
        int path = 1 + 4 + 32 + 512;
        int triangleAndEdge = 7 + 512;
        int tailedTriangle = 7 + 32 + 512;
        int tailedRing = 1 + 4 + 32 + 8 + 512;
        GraphCatalogue x = of(5);
        // Each two of these have points with the same numbers of edges, yet no renaming fits.
        due("5: path, triangle with edge", x.leader(path) == x.leader(triangleAndEdge), false);
        due("5: tailed triangle, tailed ring", x.leader(tailedTriangle) == x.leader(tailedRing), false);
        int pathOtherwise = 64 + 128 + 4 + 32;
        due("5: path, path 0-4-1-2-3", x.leader(path) == x.leader(pathOtherwise), true);
        due("4: star, triangle", of(4).leader(11) == of(4).leader(7), false);
    }

    private static void classesShareOutAllGraphs() {
        for (int n = 1; n <= 5; n++) {
            GraphCatalogue x = of(n);
            int sum = 0;
            for (int k = 0; k < CLASSES[n]; k++) sum += x.alike(x.entry(k));
            due(n + ": graphs in all classes", sum, GRAPHS[n]);
        }
        due("1: alike(0), a class of one", of(1).alike(0), 1);
        due("5: alike(path), a largest class", of(5).alike(1 + 4 + 32 + 512), 60);
    }

    private static void theLeaderIsTheSmallest() {
        for (int n = 1; n <= 5; n++) {
            Set<Integer> seen = new HashSet<>();
            for (int g = 0; g < GRAPHS[n]; g++) {
                int leader = of(n).leader(g);
                if (seen.add(leader)) due(n + ": leader(" + g + "), first of its class", leader, g);
            }
            due(n + ": number of leaders", seen.size(), CLASSES[n]);
        }
    }

    // Promise 1.

    private static void sameCatalogue(int given, int n) {
        GraphCatalogue x = of(given);
        GraphCatalogue y = of(n);
        String made = "new(" + given + ").";
        int last = GRAPHS[n] - 1;
        due(made + "points()", x.points(), n);
        due(made + "classes()", x.classes(), CLASSES[n]);
        due(made + "connected()", x.connected(), CONNECTED[n]);
        due(made + "selfOpposite()", x.selfOpposite(), SELF_OPPOSITE[n]);
        due(made + "symmetries(last)", x.symmetries(last), RENAMINGS[n]);
        due(made + "leader(after the last)", x.leader(last + 1), -1);
        due(made + "classesWith(all edges)", x.classesWith(COUPLES[n]), 1);
        due(made + "classesWith(one more)", x.classesWith(COUPLES[n] + 1), 0);
        for (int k = -1; k <= CLASSES[n]; k++) {
            due(made + "entry(" + k + ")", x.entry(k), y.entry(k));
        }
    }

    private static void tooFewPointsAreOne() {
        for (int given : new int[] {0, -1, -2, -3, -5, -256, 3 - 256, 3 - 65536, MIN, MIN + 1, MIN + 3}) {
            sameCatalogue(given, 1);
        }
    }

    private static void tooManyPointsAreFive() {
        for (int given : new int[] {6, 7, 8, 10, 32, 33, 256 + 3, 65536 + 3, 1 << 30, MAX - 1, MAX}) {
            sameCatalogue(given, 5);
        }
    }

    private static void pointsInTheRangeStayAsTheyAre() {
        for (int n = 1; n <= 5; n++) sameCatalogue(n, n);
    }

    // Promises 2, 3, 4 and 9.

    private static void leaderOfNoGraph() {
        for (int n = 1; n <= 5; n++) {
            GraphCatalogue x = of(n);
            for (int g : noGraphs(n)) due(n + ": leader(" + g + ")", x.leader(g), GraphCatalogue.BAD);
            due(n + ": leader(0) is not BAD", x.leader(0), 0);
            due(n + ": leader(last) is not BAD", x.leader(GRAPHS[n] - 1), GRAPHS[n] - 1);
        }
    }

    private static void symmetriesOfNoGraph() {
        for (int n = 1; n <= 5; n++) {
            GraphCatalogue x = of(n);
            for (int g : noGraphs(n)) {
                due(n + ": symmetries(" + g + ")", x.symmetries(g), GraphCatalogue.BAD);
            }
            due(n + ": symmetries(0) is not BAD", x.symmetries(0), RENAMINGS[n]);
            due(n + ": symmetries(last) is not BAD", x.symmetries(GRAPHS[n] - 1), RENAMINGS[n]);
        }
    }

    private static void alikeOfNoGraph() {
        for (int n = 1; n <= 5; n++) {
            GraphCatalogue x = of(n);
            for (int g : noGraphs(n)) due(n + ": alike(" + g + ")", x.alike(g), GraphCatalogue.BAD);
            due(n + ": alike(0) is not BAD", x.alike(0), 1);
            due(n + ": alike(last) is not BAD", x.alike(GRAPHS[n] - 1), 1);
        }
    }

    private static void extensionsOfNoGraph() {
        for (int n = 1; n <= 5; n++) {
            GraphCatalogue x = of(n);
            for (int g : noGraphs(n)) {
                due(n + ": extensions(" + g + ")", x.extensions(g), GraphCatalogue.BAD);
            }
            due(n + ": extensions(0) is not BAD", x.extensions(0), n == 1 ? 0 : 1);
            due(n + ": extensions(last) is not BAD", x.extensions(GRAPHS[n] - 1), 0);
        }
    }

    // Promise 5.

    private static void classesOfFewestAndMostPoints() {
        due("1: classes()", of(1).classes(), 1);
        due("2: classes()", of(2).classes(), 2);
        due("3: classes()", of(3).classes(), 4);
        due("4: classes()", of(4).classes(), 11);
        due("5: classes()", of(5).classes(), 34);
    }

    // Promise 6.

    private static void noClassesWithSoManyEdges() {
        for (int n = 1; n <= 5; n++) {
            GraphCatalogue x = of(n);
            int all = COUPLES[n];
            // The numbers from 32 on would be numbers of edges again if only low bits were looked at.
            int[] never = {-1, -2, -all - 1, MIN, MIN + 1, all + 1, all + 2, 11, 32, 32 + all, 256,
                256 + all, 65536, MAX - 1, MAX};
            for (int e : never) due(n + ": classesWith(" + e + ")", x.classesWith(e), 0);
        }
    }

    private static void noEdgesAndAllEdgesAreOneClassEach() {
        for (int n = 1; n <= 5; n++) {
            due(n + ": classesWith(0)", of(n).classesWith(0), 1);
            due(n + ": classesWith(all)", of(n).classesWith(COUPLES[n]), 1);
        }
    }

    // Promise 7.

    private static void entriesBeginAtZero() {
        for (int n = 1; n <= 5; n++) {
            due(n + ": entry(0)", of(n).entry(0), 0);
            due(n + ": entry(last)", of(n).entry(CLASSES[n] - 1), GRAPHS[n] - 1);
        }
    }

    private static void entriesAscend() {
        for (int n = 1; n <= 5; n++) {
            GraphCatalogue x = of(n);
            for (int k = 1; k < CLASSES[n]; k++) {
                due(n + ": entry(" + k + ") is above the one before", x.entry(k) > x.entry(k - 1), true);
                due(n + ": entry(" + k + ") is a leader", x.leader(x.entry(k)), x.entry(k));
            }
        }
    }

    private static void noSuchEntry() {
        for (int n = 1; n <= 5; n++) {
            GraphCatalogue x = of(n);
            int past = CLASSES[n];
            int[] never = {-1, -2, -past, MIN, MIN + 1, past, past + 1, 34, 35, 256, 1023, 1024, 1025,
                65536, 1 << 30, MAX - 1, MAX};
            for (int k : never) due(n + ": entry(" + k + ")", x.entry(k), GraphCatalogue.BAD);
        }
    }

    // Promises 8 and 13.

    private static void onePointCounts() {
        due("1: connected()", of(1).connected(), 1);
        due("0, so 1: connected()", of(0).connected(), 1);
    }

    private static void twoPointsWithoutAnEdgeDoNotCount() {
        due("2: connected()", of(2).connected(), 1);
    }

    /** A graph is in pieces iff it lies in two full graphs set side by side. */
    private static void graphsInPiecesDoNotCount() {
        int[][] pieces = {{}, {}, {0}, {1}, {7, 1 + 32}, {63, 1 + 32 + 256 + 512}};
        for (int n = 1; n <= 5; n++) {
            GraphCatalogue x = of(n);
            int whole = 0;
            for (int k = 0; k < CLASSES[n]; k++) {
                int graph = x.entry(k);
                boolean inPieces = false;
                for (int sides : pieces[n]) inPieces |= x.contains(sides, graph);
                if (!inPieces) whole++;
            }
            due(n + ": classes not in pieces", whole, CONNECTED[n]);
            due(n + ": connected()", x.connected(), whole);
        }
    }

    /** Every two points are connected iff some tree over all points lies in the graph. */
    private static void connectedByWayOfOtherPoints() {
        int[][] trees = {{}, {0}, {1}, {1 + 4}, {1 + 4 + 32, 8 + 16 + 32},
            {1 + 4 + 32 + 512, 64 + 128 + 256 + 512, 1 + 4 + 32 + 128}};
        for (int n = 1; n <= 5; n++) {
            GraphCatalogue x = of(n);
            int withTree = 0;
            for (int k = 0; k < CLASSES[n]; k++) {
                int graph = x.entry(k);
                boolean hasTree = false;
                for (int tree : trees[n]) hasTree |= x.contains(graph, tree);
                if (hasTree) withTree++;
            }
            due(n + ": classes with a tree over all points", withTree, CONNECTED[n]);
            due(n + ": connected()", x.connected(), withTree);
        }
    }

    // Promise 9.

    private static void noEdgeCanBeAdded() {
        for (int n = 1; n <= 5; n++) {
            due(n + ": extensions(full)", of(n).extensions(GRAPHS[n] - 1), 0);
        }
    }

    private static void justOneEdgeCanBeAdded() {
        for (int n = 2; n <= 5; n++) {
            for (int c = 0; c < COUPLES[n]; c++) {
                int graph = GRAPHS[n] - 1 - (1 << c);
                due(n + ": extensions(" + graph + ")", of(n).extensions(graph), 1);
            }
        }
    }

    private static void aClassReachedTwiceCountsOnce() {
        for (int n = 2; n <= 5; n++) due(n + ": extensions(0)", of(n).extensions(0), 1);
        due("4: extensions(two edges apart)", of(4).extensions(33), 1);
        due("4: extensions(ring)", of(4).extensions(1 + 4 + 32 + 8), 1);
        due("4: extensions(two edges that meet)", of(4).extensions(3), 3);
        // Six edges can be added to the path of five points; turned about, two of them match two others.
        due("5: extensions(path)", of(5).extensions(1 + 4 + 32 + 512), 4);
        due("5: extensions(ring)", of(5).extensions(1 + 4 + 32 + 512 + 64), 1);
    }

    // Promise 10.

    private static void noGraphContainsNothing() {
        for (int n = 1; n <= 5; n++) {
            GraphCatalogue x = of(n);
            for (int g : noGraphs(n)) due(n + ": contains(" + g + ", 0)", x.contains(g, 0), false);
            int last = GRAPHS[n] - 1;
            for (int g : noGraphs(n)) due(n + ": contains(" + g + ", last)", x.contains(g, last), false);
        }
    }

    private static void noGraphIsContainedInNothing() {
        for (int n = 1; n <= 5; n++) {
            GraphCatalogue x = of(n);
            int last = GRAPHS[n] - 1;
            for (int g : noGraphs(n)) due(n + ": contains(0, " + g + ")", x.contains(0, g), false);
            for (int g : noGraphs(n)) due(n + ": contains(last, " + g + ")", x.contains(last, g), false);
        }
    }

    private static void neitherIsAGraph() {
        for (int n = 1; n <= 5; n++) {
            for (int g : noGraphs(n)) {
                GraphCatalogue x = of(n);
                for (int h : noGraphs(n)) due(n + ": contains(" + g + ", " + h + ")", x.contains(g, h), false);
            }
        }
    }

    private static void emptyAndFullAsGraphAndAsPart() {
        for (int n = 1; n <= 5; n++) {
            int last = GRAPHS[n] - 1;
            for (int g = 0; g <= last; g++) {
                GraphCatalogue x = of(n);
                due(n + ": contains(" + g + ", empty)", x.contains(g, 0), true);
                due(n + ": contains(full, " + g + ")", x.contains(last, g), true);
                due(n + ": contains(empty, " + g + ")", x.contains(0, g), g == 0);
                due(n + ": contains(" + g + ", full)", x.contains(g, last), g == last);
            }
        }
    }

    private static void aGraphAlikeToThePartIsEnough() {
        for (int c = 0; c < 10; c++) {
            for (int d = 0; d < 10; d++) {
                due("5: one edge in one edge", of(5).contains(1 << c, 1 << d), true);
            }
        }
        due("4: one edge more than the graph has", of(4).contains(3, 7), false);
        due("4: as many edges, but not alike", of(4).contains(11, 7), false);
    }

    // Promise 11.

    private static void selfOppositeWithOnePoint() {
        // The one graph has no couples, so the graph of the other couples is the same one.
        due("1: selfOpposite()", of(1).selfOpposite(), 1);
    }

    private static void selfOppositeWhereThereIsNone() {
        // One couple, or three, cannot be shared out evenly between a graph and its opposite.
        due("2: selfOpposite()", of(2).selfOpposite(), 0);
        due("3: selfOpposite()", of(3).selfOpposite(), 0);
    }

    private static void selfOppositeJustTheseClasses() {
        int ring = 1 + 4 + 32 + 512 + 64;
        due("4: path and its opposite", of(4).leader(37) == of(4).leader(63 - 37), true);
        due("4: selfOpposite()", of(4).selfOpposite(), 1);
        due("5: ring and its opposite", of(5).leader(ring) == of(5).leader(1023 - ring), true);
        due("5: selfOpposite()", of(5).selfOpposite(), 2);
    }

    // Promise 12.

    private static void pointsIsTheClampedNumber() {
        for (int given = -20; given <= 20; given++) {
            int n = given < 1 ? 1 : given > 5 ? 5 : given;
            due("new(" + given + ").points()", of(given).points(), n);
        }
        due("new(smallest int).points()", of(MIN).points(), 1);
        due("new(largest int).points()", of(MAX).points(), 5);
    }

    // All promises: a call tells an answer and changes nothing, a refused one neither.

    private static void everythingAsDue(GraphCatalogue x, int n, String when) {
        int last = GRAPHS[n] - 1;
        due(when + "leader(last)", x.leader(last), last);
        due(when + "symmetries(last)", x.symmetries(last), RENAMINGS[n]);
        due(when + "alike(last)", x.alike(last), 1);
        due(when + "classes()", x.classes(), CLASSES[n]);
        due(when + "classesWith(0)", x.classesWith(0), 1);
        due(when + "entry(last)", x.entry(CLASSES[n] - 1), last);
        due(when + "entry(past the last)", x.entry(CLASSES[n]), -1);
        due(when + "connected()", x.connected(), CONNECTED[n]);
        due(when + "extensions(last)", x.extensions(last), 0);
        due(when + "contains(last, 0)", x.contains(last, 0), true);
        due(when + "selfOpposite()", x.selfOpposite(), SELF_OPPOSITE[n]);
        due(when + "points()", x.points(), n);
    }

    private static void refusedCallsChangeNothing() {
        for (int n = 1; n <= 5; n++) {
            GraphCatalogue x = of(n);
            for (int number : new int[] {-1, MIN, MAX, GRAPHS[n], 1024}) {
                due(n + ": leader(" + number + ")", x.leader(number), -1);
                due(n + ": symmetries(" + number + ")", x.symmetries(number), -1);
                due(n + ": alike(" + number + ")", x.alike(number), -1);
                due(n + ": extensions(" + number + ")", x.extensions(number), -1);
                due(n + ": contains(" + number + ", 0)", x.contains(number, 0), false);
                due(n + ": contains(0, " + number + ")", x.contains(0, number), false);
                x.entry(number);
                x.classesWith(number);
                everythingAsDue(x, n, n + ": after refused calls with " + number + ": ");
            }
        }
    }

    private static void objectsDoNotShareAnything() {
        GraphCatalogue[] all = {null, of(1), of(2), of(3), of(4), of(5)};
        for (int n = 5; n >= 1; n--) everythingAsDue(all[n], n, n + ": beside others: ");
        for (int n = 1; n <= 5; n++) everythingAsDue(all[n], n, n + ": beside others, again: ");
    }

    public static void main(String[] args) {
        // What it is.
        sentence("An object is used for at most 512 calls after it has been made",
            "everyKindOfCallIsRightAsTheLastOneAllowed",
            BoundaryTest::everyKindOfCallIsRightAsTheLastOneAllowed);
        sentence("An object is used for at most 512 calls after it has been made",
            "oneMethodAloneMayHaveAllCalls", BoundaryTest::oneMethodAloneMayHaveAllCalls);
        sentence("what later calls answer is free", "laterCallsComeBack",
            BoundaryTest::laterCallsComeBack);

        // Terms.
        sentence("There are n POINTS (1 to 5)", "everyNumberOfPointsFromOneToFive",
            BoundaryTest::everyNumberOfPointsFromOneToFive);
        sentence("The couple of points i < j has the number j * (j - 1) / 2 + i.",
            "firstAndLastCouples", BoundaryTest::firstAndLastCouples);
        sentence("graphs are the numbers from 0 to 2^(n * (n - 1) / 2) - 1", "firstAndLastGraph",
            BoundaryTest::firstAndLastGraph);
        sentence("A RENAMING gives the points the numbers 0 to n - 1 anew, each once",
            "everyRenamingCountsOnce", BoundaryTest::everyRenamingCountsOnce);
        sentence("it makes another graph (or the same) of a graph",
            "theRenamingThatChangesNothingCounts", BoundaryTest::theRenamingThatChangesNothingCounts);
        sentence("Two graphs are ALIKE iff some renaming makes the one of the other",
            "alikeJustByARenaming", BoundaryTest::alikeJustByARenaming);
        sentence("a CLASS is a largest set of graphs alike to each other",
            "classesShareOutAllGraphs", BoundaryTest::classesShareOutAllGraphs);
        sentence("its LEADER is its smallest graph", "theLeaderIsTheSmallest",
            BoundaryTest::theLeaderIsTheSmallest);

        // Promise 1.
        sentence("n is points clamped into 1..5.", "tooFewPointsAreOne",
            BoundaryTest::tooFewPointsAreOne);
        sentence("n is points clamped into 1..5.", "tooManyPointsAreFive",
            BoundaryTest::tooManyPointsAreFive);
        sentence("n is points clamped into 1..5.", "pointsInTheRangeStayAsTheyAre",
            BoundaryTest::pointsInTheRangeStayAsTheyAre);

        // Promises 2, 3 and 4.
        sentence("The leader of a graph's class; BAD if graph is no graph.", "leaderOfNoGraph",
            BoundaryTest::leaderOfNoGraph);
        sentence("The number of renamings that make a graph of itself; BAD if graph is no graph.",
            "symmetriesOfNoGraph", BoundaryTest::symmetriesOfNoGraph);
        sentence("The number of graphs in a graph's class; BAD if graph is no graph.",
            "alikeOfNoGraph", BoundaryTest::alikeOfNoGraph);

        // Promise 5.
        sentence("The number of classes.", "classesOfFewestAndMostPoints",
            BoundaryTest::classesOfFewestAndMostPoints);

        // Promise 6.
        sentence("The number of classes of graphs with so many edges; 0 if there are none.",
            "noClassesWithSoManyEdges", BoundaryTest::noClassesWithSoManyEdges);
        sentence("The number of classes of graphs with so many edges",
            "noEdgesAndAllEdgesAreOneClassEach", BoundaryTest::noEdgesAndAllEdgesAreOneClassEach);

        // Promise 7.
        sentence("Leader number k, from 0", "entriesBeginAtZero", BoundaryTest::entriesBeginAtZero);
        sentence("in ascending order", "entriesAscend", BoundaryTest::entriesAscend);
        sentence("BAD if there is none.", "noSuchEntry", BoundaryTest::noSuchEntry);

        // Promise 8.
        sentence("(n = 1 counts)", "onePointCounts", BoundaryTest::onePointCounts);
        sentence("every two points are connected by edges", "twoPointsWithoutAnEdgeDoNotCount",
            BoundaryTest::twoPointsWithoutAnEdgeDoNotCount);
        sentence("every two points are connected by edges", "graphsInPiecesDoNotCount",
            BoundaryTest::graphsInPiecesDoNotCount);

        // Promise 9.
        sentence("the graphs that come of a graph by adding one edge", "noEdgeCanBeAdded",
            BoundaryTest::noEdgeCanBeAdded);
        sentence("the graphs that come of a graph by adding one edge", "justOneEdgeCanBeAdded",
            BoundaryTest::justOneEdgeCanBeAdded);
        sentence("The number of different classes", "aClassReachedTwiceCountsOnce",
            BoundaryTest::aClassReachedTwiceCountsOnce);
        sentence("by adding one edge; BAD if graph is no graph.", "extensionsOfNoGraph",
            BoundaryTest::extensionsOfNoGraph);

        // Promise 10.
        sentence("false if one of them is no graph.", "noGraphContainsNothing",
            BoundaryTest::noGraphContainsNothing);
        sentence("false if one of them is no graph.", "noGraphIsContainedInNothing",
            BoundaryTest::noGraphIsContainedInNothing);
        sentence("false if one of them is no graph.", "neitherIsAGraph",
            BoundaryTest::neitherIsAGraph);
        sentence("has only edges that graph has", "emptyAndFullAsGraphAndAsPart",
            BoundaryTest::emptyAndFullAsGraphAndAsPart);
        sentence("Whether some graph alike to part", "aGraphAlikeToThePartIsEnough",
            BoundaryTest::aGraphAlikeToThePartIsEnough);

        // Promise 11.
        sentence("alike to the graph with just the other couples as edges.",
            "selfOppositeWithOnePoint", BoundaryTest::selfOppositeWithOnePoint);
        sentence("alike to the graph with just the other couples as edges.",
            "selfOppositeWhereThereIsNone", BoundaryTest::selfOppositeWhereThereIsNone);
        sentence("alike to the graph with just the other couples as edges.",
            "selfOppositeJustTheseClasses", BoundaryTest::selfOppositeJustTheseClasses);

        // Promise 12.
        sentence("`int points()`: n.", "pointsIsTheClampedNumber",
            BoundaryTest::pointsIsTheClampedNumber);

        // Promise 13.
        sentence("along edges, also by way of other points.", "connectedByWayOfOtherPoints",
            BoundaryTest::connectedByWayOfOtherPoints);

        // No promise tells of a state that a call would change.
        sentence("Nothing is promised beyond the answers and state changes described above",
            "refusedCallsChangeNothing", BoundaryTest::refusedCallsChangeNothing);
        sentence("Nothing is promised beyond the answers and state changes described above",
            "objectsDoNotShareAnything", BoundaryTest::objectsDoNotShareAnything);

        System.out.println(wrong == 0 ? "all boundaries hold" : wrong + " answers are not as due");
        if (wrong != 0) System.exit(1);
    }
}
